/-! the reference's board: a stretch of 40 places of its row of numbers, from r on -/
def VR (C : Nat → Nat → Int32) (r j : Nat) : Int32 := C 123 (r + j)
def frW (lo hi : Nat) (M M' : mm) : Prop := M'.2 = M.2 ∧ (∀ a, a ≠ 123 → M'.1 a = M.1 a) ∧ ∀ j, j < lo ∨ hi ≤ j → M'.1 123 j = M.1 123 j
theorem frW.rf {lo hi : Nat} {M : mm} : frW lo hi M M := ⟨rfl, fun _ _ => rfl, fun _ _ => rfl⟩
theorem frW.put {lo hi : Nat} {M M' : mm} {j : Nat} {x : Int32} (h : frW lo hi M M') (h1 : lo ≤ j) (h2 : j < hi) : frW lo hi M (sI M' 123 j x) := ⟨h.1, fun a ha => (up2_c M'.1 x ha).trans (h.2.1 a ha), fun k hk => (up2_n M'.1 x (fun q => by omega)).trans (h.2.2 k hk)⟩
theorem frW.tr {lo hi : Nat} {M M' M'' : mm} (h : frW lo hi M M') (h2 : frW lo hi M' M'') : frW lo hi M M'' := ⟨h2.1.trans h.1, fun a ha => (h2.2.1 a ha).trans (h.2.1 a ha), fun j hj => (h2.2.2 j hj).trans (h.2.2 j hj)⟩
theorem frW.mono {lo hi lo' hi' : Nat} {M M' : mm} (h : frW lo hi M M') (h1 : lo' ≤ lo) (h2 : hi ≤ hi') : frW lo' hi' M M' := ⟨h.1, h.2.1, fun j hj => h.2.2 j (by omega)⟩
theorem frW.fr {lo hi : Nat} {M M' : mm} (h : frW lo hi M M') : fr (fun a => a = 123) M M' := ⟨h.1, h.2.1⟩
theorem VR_up (C : Nat → Nat → Int32) (r j : Nat) (x : Int32) : VR (up2 C 123 (r + j) x) r = upd (VR C r) j x := by
  funext i
  by_cases e : i = j
  · subst e; simp [VR, up2, upd]
  · rw [upd_n _ _ e]
    exact up2_n C x (fun q => e (by omega))
section RB
variable {M : mm} {r : Nat}
theorem ra {k : Nat} (h : k < 852) : gx_aI 0 (lay M) 123 (nI k) = some (M.1 123 k) := aI_lay 852 (by decide) (by decide) h (by decide)
theorem rs {k : Nat} {x : Int32} (h : k < 852) : gx_sI 0 (lay M) 123 (nI k) x = some (lay (sI M 123 k x)) := sI_lay 852 (by decide) (by decide) h (by decide)
theorem r_linkFrom_l (p : Int32) {n : Nat} (hr : r ≤ 812) (hn : VR M.1 r 2 = nI n) (h6 : n ≤ 6) : ∀ (m k F : Nat), k + m = n → m < F → fX11_linkFrom_2 F 122 (nI r) p (nI k) (lay M) = some (lkI (lkG (fun k => VR M.1 r (10 + k)) p m k), lay M)
  | m, k, 0, _, hF => by omega
  | 0, k, F + 1, hk, _ => by
    show bX11_linkFrom_2 (fX11_linkFrom_2 F) 122 (nI r) p (nI k) (lay M) = _
    unfold bX11_linkFrom_2
    simp only [r_122_0, Option.bind_some, nIl, ra (show r + 2 < 852 by omega)]
    rw [show M.1 123 (r + 2) = nI n from hn, if_pos (nI_le (by omega) (by omega))]
    rfl
  | m + 1, k, F + 1, hk, hF => by
    show bX11_linkFrom_2 (fX11_linkFrom_2 F) 122 (nI r) p (nI k) (lay M) = _
    unfold bX11_linkFrom_2
    simp only [r_122_0, Option.bind_some, nIl, nI_add, ra (show r + 2 < 852 by omega), ra (show r + 10 + k < 852 by omega)]
    rw [show M.1 123 (r + 2) = nI n from hn, if_neg (nI_ge (by omega) (by omega))]
    unfold lkG
    rw [show VR M.1 r (10 + k) = M.1 123 (r + 10 + k) from by unfold VR; rw [Nat.add_assoc]]
    split
    · rfl
    · exact r_linkFrom_l p hr hn h6 m (k + 1) F (by omega) (by omega)
theorem r_linkFrom (p : Int32) {n : Nat} (hr : r ≤ 812) (hn : VR M.1 r 2 = nI n) (h6 : n ≤ 6) : fX11_linkFrom 122 (nI r) p (lay M) = some (lkI (lkG (fun k => VR M.1 r (10 + k)) p n 0), lay M) := by
  unfold fX11_linkFrom
  rw [o_122, Option.bind_some]
  exact r_linkFrom_l p hr hn h6 n 0 gx_N (by omega) (by unfold gx_N; omega)
theorem r_isHome {i : Nat} (hr : r ≤ 812) (hi : i < 4) : fX11_isHome 122 (nI r) (nI i) (lay M) = some (b2 (VR M.1 r (32 + i) = VR M.1 r 0), lay M) := by
  unfold fX11_isHome fX11_isHome_27
  simp only [o_122, r_122_0, Option.bind_some, nIl, nI_add, ra (show r + 32 + i < 852 by omega), ra (show r + 0 < 852 by omega)]
  rw [show M.1 123 (r + 32 + i) = VR M.1 r (32 + i) from by unfold VR; rw [Nat.add_assoc], show M.1 123 (r + 0) = VR M.1 r 0 from rfl]
  unfold b2
  split <;> rfl
theorem r_throwsOne {n np i : Nat} {t : Int32} (hr : r ≤ 812) (h : okV (VR M.1 r) n np) (hi : i < np) :
    ∃ M', fX11_throwsOne 122 (nI r) (nI i) t (lay M) = some ((), lay M') ∧ VR M'.1 r = thr (VR M.1 r) n i t ∧ frW r (r + 40) M M' := by
  have h4 : i < 4 := Nat.lt_of_lt_of_le hi h.2.2.2.1
  have h6 := h.2.1
  unfold fX11_throwsOne
  simp only [o_122, r_122_0, Option.bind_some, nIl, nI_add, ra (show r + 32 + i < 852 by omega), ra (show r + 28 + i < 852 by omega), ra (show r + 0 < 852 by omega), f11_goesBy, gx_bd_some]
  rw [show gB (M.1 123 (r + 28 + i)) (M.1 123 (r + 0)) (M.1 123 (r + 32 + i)) t = goV (VR M.1 r) i t from by unfold goV VR; rw [Nat.add_assoc, Nat.add_assoc]]
  rw [show M.1 123 (r + 32 + i) = VR M.1 r (32 + i) from by unfold VR; rw [Nat.add_assoc]]
  -- the last stretch
  have last : ∀ (M1 : mm) (x : Int32), frW r (r + 40) M M1 → M1.1 123 (r + 36 + i) = VR M.1 r (36 + i) → ∃ M', fX11_throwsOne_148 122 (nI r) (nI i) x (lay M1) = some ((), lay M') ∧ VR M'.1 r = upd (upd (VR M1.1 r) (32 + i) x) (36 + i) (tT (VR M.1 r (36 + i))) ∧ frW r (r + 40) M M' := by
    intro M1 x hf ht
    unfold fX11_throwsOne_148 fX11_throwsOne_195
    simp only [r_122_0, Option.bind_some, nIl, nI_add, rs (show r + 32 + i < 852 by omega), ra (show r + 36 + i < 852 by omega), rs (show r + 36 + i < 852 by omega)]
    rw [sI_n (show r + 36 + i ≠ r + 32 + i by omega), ht]
    refine ⟨sI (sI M1 123 (r + 32 + i) x) 123 (r + 36 + i) (tT (VR M.1 r (36 + i))), ?_, ?_, (hf.put (by omega) (by omega)).put (by omega) (by omega)⟩
    · unfold tT
      split <;> rfl
    · rw [show (sI (sI M1 123 (r + 32 + i) x) 123 (r + 36 + i) (tT (VR M.1 r (36 + i)))).1 = up2 (up2 M1.1 123 (r + (32 + i)) x) 123 (r + (36 + i)) (tT (VR M.1 r (36 + i))) from by rw [← Nat.add_assoc, ← Nat.add_assoc]; rfl, VR_up, VR_up]
  have ht0 : M.1 123 (r + 36 + i) = VR M.1 r (36 + i) := by unfold VR; rw [Nat.add_assoc]
  have hmet : metV (VR M.1 r) n i t = if goV (VR M.1 r) i t = VR M.1 r (32 + i) then none else lkG (fun k => VR M.1 r (10 + k)) (goV (VR M.1 r) i t) n 0 := rfl
  by_cases c : goV (VR M.1 r) i t = VR M.1 r (32 + i)
  · rw [if_pos c] at hmet
    rw [if_pos c]
    unfold fX11_throwsOne_58
    rw [if_pos (by decide)]
    obtain ⟨M', e1, e2, e3⟩ := last M (goV (VR M.1 r) i t) frW.rf ht0
    refine ⟨M', e1, ?_, e3⟩
    rw [e2]
    unfold thr
    rw [hmet]
  · rw [if_neg c] at hmet
    rw [if_neg c, r_linkFrom _ hr h.1 h6, gx_bd_some, ← hmet]
    cases hq : metV (VR M.1 r) n i t with
    | none =>
      unfold fX11_throwsOne_58
      rw [if_pos (show lkI none < 0 by decide)]
      obtain ⟨M', e1, e2, e3⟩ := last M (goV (VR M.1 r) i t) frW.rf ht0
      refine ⟨M', e1, ?_, e3⟩
      rw [e2]
      unfold thr
      rw [hq]
    | some k =>
      obtain ⟨hk, hfk⟩ := metV_lt hq
      unfold fX11_throwsOne_58 fX11_throwsOne_147
      rw [show lkI (some k) = nI k from rfl, if_neg (nI_pos (by omega))]
      simp only [r_122_0, Option.bind_some, nIl, nI_add, ra (show r + 22 + k < 852 by omega), ra (show r + 4 + k < 852 by omega), ra (show r + 0 < 852 by omega), ra (show r + 16 + k < 852 by omega), f11_leadsBy, gx_bd_some, rs (show r + 22 + k < 852 by omega)]
      rw [show lB (M.1 123 (r + 4 + k)) (M.1 123 (r + 0)) (goV (VR M.1 r) i t) (M.1 123 (r + 16 + k)) (M.1 123 (r + 22 + k)) t = ldV (VR M.1 r) i k t from by unfold ldV VR; rw [Nat.add_assoc, Nat.add_assoc, Nat.add_assoc]]
      rw [show M.1 123 (r + 22 + k) = VR M.1 r (22 + k) from by unfold VR; rw [Nat.add_assoc]]
      obtain ⟨M', e1, e2, e3⟩ := last (sI M 123 (r + 22 + k) (tU (VR M.1 r (22 + k)))) (ldV (VR M.1 r) i k t) (frW.rf.put (by omega) (by omega)) (by rw [sI_n (by omega)]; exact ht0)
      refine ⟨M', ?_, ?_, e3⟩
      · unfold tU at e1
        split <;> rename_i c2 <;> simp only [c2, if_true, if_false] at e1 <;> exact e1
      · rw [e2]
        unfold thr
        rw [hq]
        dsimp only
        rw [show (sI M 123 (r + 22 + k) (tU (VR M.1 r (22 + k)))).1 = up2 M.1 123 (r + (22 + k)) (tU (VR M.1 r (22 + k))) from by rw [← Nat.add_assoc]; rfl, VR_up]
theorem r_rollsTried {n np i : Nat} {t : Int32} (h : okV (VR M.1 812) n np) (hi : i < np) :
    ∃ M', fX11_rollsTried 122 (nI i) t (lay M) = some ((), lay M') ∧ VR M'.1 812 = (if VR M.1 812 (32 + i) = VR M.1 812 0 then VR M.1 812 else thr (VR M.1 812) n i t) ∧ frW 812 852 M M' := by
  have h4 : i < 4 := Nat.lt_of_lt_of_le hi h.2.2.2.1
  unfold fX11_rollsTried
  rw [o_122, Option.bind_some, show (812 : Int32) = nI 812 from rfl, r_isHome (by omega) h4, gx_bd_some]
  by_cases c : VR M.1 812 (32 + i) = VR M.1 812 0
  · rw [b2_t c, if_neg (by decide), if_pos c]
    exact ⟨M, rfl, rfl, frW.rf⟩
  · rw [b2_f c, if_pos rfl, if_neg c]
    obtain ⟨M', e1, e2, e3⟩ := r_throwsOne (M := M) (r := 812) (t := t) (by omega) h hi
    rw [e1, gx_bd_some]
    exact ⟨M', rfl, e2, e3⟩
end RB
