/-! the class's walk on its board of outlook: a throw, and back -/
theorem so_C {t : Nat} (h : t < 5) : isC (111 + t) 6 = true := by
  rcases (show t = 0 ∨ t = 1 ∨ t = 2 ∨ t = 3 ∨ t = 4 by omega) with rfl | rfl | rfl | rfl | rfl <;> decide
theorem ar110 {M : mm} {t : Nat} (h : t < 5) (hp : ∀ j, j < 5 → M.2.2 110 j = some (111 + j)) : gx_aR 3 (lay M) 110 (nI t) = some (111 + t) := by
  rw [aR_lay 5 (show isA 110 3 5 = true by decide) (by decide) h (by decide), hp t h]
/-- what a Step of the outlook remembers -/
def sto (M : mm) (V : Nat → Int32) (n i r t : Nat) : Prop := M.1 (111 + t) 0 = nI i ∧ M.1 (111 + t) 1 = V (32 + i) ∧ M.1 (111 + t) 2 = V (36 + i) ∧ M.1 (111 + t) 3 = lkI (metV V n i (nI r)) ∧ ∀ k, metV V n i (nI r) = some k → M.1 (111 + t) 4 = V (22 + k)
theorem c_mv {M : mm} {n np i r t : Nat} (h : okV (VC M.1 102) n np) (hi : i < np) (h1 : 1 ≤ r) (h6 : r ≤ 6) (ht : t < 5) : ∃ M', fX0_move 102 (nI i) (nI r) (111 + t) (lay M) = some ((), lay M') ∧ VC M'.1 102 = thr (VC M.1 102) n i (nI r) ∧ sto M' (VC M.1 102) n i r t ∧ fr (inBS 102 (111 + t)) M M' := by
  obtain ⟨M', a1, a2, a3, a4, a5, a6, a7, a8⟩ := c_move (M := M) (b := 102) (s := 111 + t) brd_102 (so_C ht) (by omega) h hi h1 h6
  exact ⟨M', a1, a2, ⟨a3, a4, a5, a6, a7⟩, a8⟩
theorem c_tb {M : mm} {V : Nat → Int32} {n np i r t : Nat} (h : okV V n np) (hi : i < np) (ht : t < 5) (hV : VC M.1 102 = thr V n i (nI r)) (hs : sto M V n i r t) : ∃ M', fX0_takeBack 102 (111 + t) (lay M) = some ((), lay M') ∧ VC M'.1 102 = V ∧ fr (inB 102) M M' := by
  obtain ⟨s0, s1, s2, s3, s4⟩ := hs
  have h4 : i < 4 := Nat.lt_of_lt_of_le hi h.2.2.2.1
  have hn := h.2.1
  obtain ⟨M', a1, a2, a3⟩ := c_takeBack (M := M) (b := 102) (s := 111 + t) brd_102 (so_C ht) (by omega) (pl := i) (lk := metV V n i (nI r)) s0 h4 s3 (fun k hk => by have := (metV_lt hk).1; omega)
  refine ⟨M', a1, ?_, a3⟩
  rw [a2, hV, s1, s2]
  exact thr_tb h4 hn s4
