/-! few: the class's findRow -/
def kF (t : Nat) (M M' : mm) : Prop := M'.2 = M.2 ∧ VC M'.1 102 = VC M.1 102 ∧ (∀ a, a < 102 ∨ a = 110 ∨ (111 ≤ a ∧ a < 111 + t) ∨ a = 116 ∨ 118 ≤ a → M'.1 a = M.1 a) ∧ ∀ s, s < t → M'.1 117 s = M.1 117 s
theorem kF.rf {t : Nat} {M : mm} : kF t M M := ⟨rfl, rfl, fun _ _ => rfl, fun _ _ => rfl⟩
theorem kF.tr {t : Nat} {M M' M'' : mm} (h : kF t M M') (h2 : kF t M' M'') : kF t M M'' := ⟨h2.1.trans h.1, h2.2.1.trans h.2.1, fun a ha => (h2.2.2.1 a ha).trans (h.2.2.1 a ha), fun s hs => (h2.2.2.2 s hs).trans (h.2.2.2 s hs)⟩
section FR
variable {d n np i T : Nat}
/-- what is found, and the row -/
def fnd (M' : mm) (d t m : Nat) (o : Option Nat) : Prop := ∀ y, o = some y → ∀ s, s < m → M'.1 117 (t + s) = nI (y / d ^ (m - 1 - s) % d + 1)
def iB (o : Option Nat) : Int32 := match o with
  | some _ => 1
  | none => 0
theorem c_find_37 (hd1 : 2 ≤ d) (hd : d ≤ 6) (hi : i < np) {m t : Nat} (ht : t < 5) (kr : Nat → Int32 → Int32 → Int32 → gx_H → Option (Int32 × gx_H))
    (hkr : ∀ M : mm, okV (VC M.1 102) n np → M.1 102 1 = nI d → (∀ j, j < 5 → M.2.2 110 j = some (111 + j)) → ∃ M', kr 101 (nI i) (nI (t + 1)) (nI T) (lay M) = some (iB (fv d n i m (VC M.1 102)), lay M') ∧ kF (t + 1) M M' ∧ fnd M' d (t + 1) m (fv d n i m (VC M.1 102))) :
    ∀ (c r F : Nat) (M : mm), r + c = d + 1 → 1 ≤ r → c < F → okV (VC M.1 102) n np → M.1 102 1 = nI d → (∀ j, j < 5 → M.2.2 110 j = some (111 + j)) → ∃ M', fX5_findRow_37 kr F 101 (nI i) (nI t) (nI T) (nI r) (lay M) = some (iB (fst1 (fun r => fv d n i m (thr (VC M.1 102) n i (nI r))) (d ^ m) c r), lay M') ∧ kF t M M' ∧ fnd M' d t (m + 1) (fst1 (fun r => fv d n i m (thr (VC M.1 102) n i (nI r))) (d ^ m) c r)
  | c, r, 0, M, _, _, hF, _, _, _ => by omega
  | 0, r, F + 1, M, hr, _, _, hok, hD, hP => by
    show ∃ M', bX5_findRow_37 kr (fX5_findRow_37 kr F) 101 (nI i) (nI t) (nI T) (nI r) (lay M) = _ ∧ _
    unfold bX5_findRow_37
    rw [r_101_0, Option.bind_some, bi1 brd_102, Option.bind_some, hD, if_pos (nI_lt (by omega) (by omega))]
    exact ⟨M, rfl, kF.rf, fun y hy => by cases hy⟩
  | c + 1, r, F + 1, M, hr, h1, hF, hok, hD, hP => by
    show ∃ M', bX5_findRow_37 kr (fX5_findRow_37 kr F) 101 (nI i) (nI t) (nI T) (nI r) (lay M) = _ ∧ _
    have hr6 : r ≤ 6 := by omega
    unfold bX5_findRow_37
    rw [r_101_0, Option.bind_some, bi1 brd_102, Option.bind_some, hD, if_neg (show ¬ nI d < nI r from by rw [t_lt, nI_toInt (by omega), nI_toInt (by omega)]; omega), r_101_3, Option.bind_some, sI_lay 5 (show isA 117 0 5 = true by decide) (by decide) ht (by decide), Option.bind_some, r_101_0, Option.bind_some, r_101_1, Option.bind_some, ar110 (M := sI M 117 t (nI r)) ht hP, Option.bind_some]
    have hV0 : VC (sI M 117 t (nI r)).1 102 = VC M.1 102 := VC_out M.1 _ (by omega)
    obtain ⟨M1, a1, a2, a3, a4⟩ := c_mv (M := sI M 117 t (nI r)) (n := n) (np := np) (i := i) (r := r) (t := t) (by rw [hV0]; exact hok) hi h1 hr6 ht
    rw [hV0] at a2 a3
    rw [a1, gx_bd_some, nI_1]
    have hok1 : okV (VC M1.1 102) n np := by rw [a2]; exact okV_thr hok hi h1 hr6
    have hD1 : M1.1 102 1 = nI d := by
      rw [← VC_0 M1.1 102 (by omega), a2, thr_o (by omega) (by omega) (fun k _ => by omega), VC_0 _ _ (by omega)]; exact hD
    obtain ⟨M2, b1, b2, b3⟩ := hkr M1 hok1 hD1 (by rw [a4.1]; exact hP)
    rw [a2] at b1 b3
    rw [b1, gx_bd_some, r_101_0, Option.bind_some, r_101_1, Option.bind_some, ar110 ht (by rw [b2.1, a4.1]; exact hP), Option.bind_some]
    have hs2 : sto M2 (VC M.1 102) n i r t := by
      unfold sto
      rw [b2.2.2.1 (111 + t) (by omega)]
      exact a3
    obtain ⟨M3, c1, c2, c3⟩ := c_tb (M := M2) hok hi ht (by rw [b2.2.1]; exact a2) hs2
    rw [c1, gx_bd_some]
    have f3 : ∀ a, ¬ (102 ≤ a ∧ a < 110) → M3.1 a = M2.1 a := fun a ha => c3.2 a (fun z => by unfold inB at z; omega)
    have f1 : ∀ a, ¬ (102 ≤ a ∧ a < 110) → a ≠ 111 + t → a ≠ 117 → M1.1 a = M.1 a := fun a h1 h2 h3 => by rw [a4.2 a (fun z => by unfold inBS at z; omega), sI_o h3]
    have r1 : ∀ s, M1.1 117 s = (sI M 117 t (nI r)).1 117 s := fun s => by rw [a4.2 117 (fun z => by unfold inBS at z; omega)]
    have k3 : kF t M M3 := ⟨c3.1.trans (b2.1.trans a4.1), c2, fun a ha => by rw [f3 a (by omega), b2.2.2.1 a (by omega), f1 a (by omega) (by omega) (by omega)], fun s hs => by rw [f3 117 (by omega), b2.2.2.2 s (by omega), r1, sI_n (by omega)]⟩
    unfold fst1
    cases hq : fv d n i m (thr (VC M.1 102) n i (nI r)) with
    | some y =>
      rw [hq] at b3
      rw [if_neg (show ¬ iB (some y) = 0 from (by decide : ¬ (1 : Int32) = 0))]
      refine ⟨M3, rfl, k3, fun z hz s hs => ?_⟩
      cases hz
      have hy := fv_lt hq
      rw [f3 117 (by omega)]
      cases s with
      | zero =>
        rw [Nat.add_zero, b2.2.2.2 t (by omega), r1, sI_s, show m + 1 - 1 - 0 = m by omega, dig_hi h1 (by omega) hy]
      | succ s =>
        have := b3 y rfl s (by omega)
        rw [show t + (s + 1) = t + 1 + s by omega, this, show m + 1 - 1 - (s + 1) = m - 1 - s by omega, dig_lo (by omega) (by omega)]
    | none =>
      rw [if_pos (show iB none = 0 from rfl), nI_1]
      obtain ⟨M4, d1', d2', d3'⟩ := c_find_37 hd1 hd hi ht kr hkr c (r + 1) F M3 (by omega) (by omega) (by omega) (by rw [c2]; exact hok) (by rw [← VC_0 M3.1 102 (by omega), c2, VC_0 _ _ (by omega)]; exact hD) (by rw [k3.1]; exact hP)
      rw [c2] at d1' d3'
      exact ⟨M4, d1', k3.tr d2', d3'⟩
end FR
