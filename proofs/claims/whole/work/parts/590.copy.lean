/-! copies of games -/
section BC
variable {b b' : Nat}
theorem c_bcopy_96 (hb : brd b) (hb' : brd b') (hd : b + 8 ≤ b' ∨ b' + 8 ≤ b) : ∀ (m k F : Nat) (M : mm), k + m = 4 → m < F → ∃ M', fX0_copy_96 F b' b (nI k) (lay M) = some ((), lay M') ∧ fr (inB b') M M' ∧ (∀ j, j < 28 ∨ (28 ≤ j ∧ j < 28 + k) ∨ (32 ≤ j ∧ j < 32 + k) ∨ (36 ≤ j ∧ j < 36 + k) → VC M'.1 b' j = VC M.1 b' j) ∧ ∀ i, k ≤ i → i < 4 → VC M'.1 b' (28 + i) = VC M.1 b (28 + i) ∧ VC M'.1 b' (32 + i) = VC M.1 b (32 + i) ∧ VC M'.1 b' (36 + i) = VC M.1 b (36 + i)
  | m, k, 0, M, _, hF => by omega
  | 0, k, F + 1, M, hj, _ => by
    show ∃ M', bX0_copy_96 (fX0_copy_96 F) b' b (nI k) (lay M) = _ ∧ _
    unfold bX0_copy_96
    rw [if_pos (show (4 : Int32) ≤ nI k from nI_le (a := 4) (by omega) (by omega))]
    exact ⟨M, rfl, fr.rf, fun j _ => rfl, fun i h1 h2 => by omega⟩
  | m + 1, k, F + 1, M, hj, hF => by
    have hk : k < 4 := by omega
    show ∃ M', bX0_copy_96 (fX0_copy_96 F) b' b (nI k) (lay M) = _ ∧ _
    unfold bX0_copy_96
    rw [if_neg (show ¬ (4 : Int32) ≤ nI k from nI_ge (b := 4) (by omega) (by omega))]
    simp only [br8 hb, br9 hb, br10 hb, br8 hb', br9 hb', br10 hb', ba5 hb hk, ba6 hb hk, ba7 hb hk, bs5 hb' hk, bs6 hb' hk, bs7 hb' hk, Option.bind_some, nI_1]
    rw [sI_o (show b + 7 ≠ b' + 6 by omega), sI_o (show b + 7 ≠ b' + 5 by omega), sI_o (show b + 6 ≠ b' + 5 by omega), ← VC_5 M.1 b hk, ← VC_6 M.1 b hk, ← VC_7 M.1 b hk]
    generalize hM1 : sI (sI (sI M (b' + 5) k (VC M.1 b (28 + k))) (b' + 6) k (VC M.1 b (32 + k))) (b' + 7) k (VC M.1 b (36 + k)) = M1
    have f1 : fr (inB b') M M1 := by rw [← hM1]; exact (((fr.rf (M := M)).put ⟨by omega, by omega⟩).put ⟨by omega, by omega⟩).put ⟨by omega, by omega⟩
    have v1 : VC M1.1 b' = upd (upd (upd (VC M.1 b') (28 + k) (VC M.1 b (28 + k))) (32 + k) (VC M.1 b (32 + k))) (36 + k) (VC M.1 b (36 + k)) := by
      rw [← hM1, show ∀ x y z, (sI (sI (sI M (b' + 5) k x) (b' + 6) k y) (b' + 7) k z).1 = up2 (up2 (up2 M.1 (b' + 5) k x) (b' + 6) k y) (b' + 7) k z from fun _ _ _ => rfl, VC_u7 _ _ _ hk, VC_u6 _ _ _ hk, VC_u5 _ _ _ hk]
    have vb : VC M1.1 b = VC M.1 b := f1.V (fun a h1 h2 q => by unfold inB at q; omega)
    obtain ⟨M', e1, e2, e3, e4⟩ := c_bcopy_96 hb hb' hd m (k + 1) F M1 (by omega) (by omega)
    refine ⟨M', e1, f1.tr e2, fun j q => ?_, fun i h1 h2 => ?_⟩
    · rw [e3 j (by omega), v1, upd_n _ _ (by omega), upd_n _ _ (by omega), upd_n _ _ (by omega)]
    · by_cases q : i = k
      · subst q
        rw [e3 _ (by omega), e3 _ (by omega), e3 _ (by omega), v1, upd_n _ _ (by omega), upd_n _ _ (by omega), upd_s, upd_n _ _ (by omega), upd_s, upd_s]
        exact ⟨rfl, rfl, rfl⟩
      · rw [← vb]; exact e4 i (by omega) h2
theorem c_bcopy_34 (hb : brd b) (hb' : brd b') (hd : b + 8 ≤ b' ∨ b' + 8 ≤ b) : ∀ (m k F : Nat) (M : mm), k + m = 6 → m < F → ∃ M', fX0_copy_34 F b' b (nI k) (lay M) = fX0_copy_96 gx_N b' b 0 (lay M') ∧ fr (inB b') M M' ∧ (∀ j, j < 4 ∨ (4 ≤ j ∧ j < 4 + k) ∨ (10 ≤ j ∧ j < 10 + k) ∨ (16 ≤ j ∧ j < 16 + k) ∨ (22 ≤ j ∧ j < 22 + k) ∨ 28 ≤ j → VC M'.1 b' j = VC M.1 b' j) ∧ ∀ i, k ≤ i → i < 6 → VC M'.1 b' (4 + i) = VC M.1 b (4 + i) ∧ VC M'.1 b' (10 + i) = VC M.1 b (10 + i) ∧ VC M'.1 b' (16 + i) = VC M.1 b (16 + i) ∧ VC M'.1 b' (22 + i) = VC M.1 b (22 + i)
  | m, k, 0, M, _, hF => by omega
  | 0, k, F + 1, M, hj, _ => by
    show ∃ M', bX0_copy_34 (fX0_copy_34 F) b' b (nI k) (lay M) = _ ∧ _
    unfold bX0_copy_34
    rw [if_pos (show (6 : Int32) ≤ nI k from nI_le (a := 6) (by omega) (by omega))]
    exact ⟨M, rfl, fr.rf, fun j _ => rfl, fun i h1 h2 => by omega⟩
  | m + 1, k, F + 1, M, hj, hF => by
    have hk : k < 6 := by omega
    show ∃ M', bX0_copy_34 (fX0_copy_34 F) b' b (nI k) (lay M) = _ ∧ _
    unfold bX0_copy_34
    rw [if_neg (show ¬ (6 : Int32) ≤ nI k from nI_ge (b := 6) (by omega) (by omega))]
    simp only [br4 hb, br5 hb, br6 hb, br7 hb, br4 hb', br5 hb', br6 hb', br7 hb', ba1 hb hk, ba2 hb hk, ba3 hb hk, ba4 hb hk, bs1 hb' hk, bs2 hb' hk, bs3 hb' hk, bs4 hb' hk, Option.bind_some, nI_1]
    rw [sI_o (show b + 4 ≠ b' + 3 by omega), sI_o (show b + 4 ≠ b' + 2 by omega), sI_o (show b + 4 ≠ b' + 1 by omega), sI_o (show b + 3 ≠ b' + 2 by omega), sI_o (show b + 3 ≠ b' + 1 by omega), sI_o (show b + 2 ≠ b' + 1 by omega), ← VC_1 M.1 b hk, ← VC_2 M.1 b hk, ← VC_3 M.1 b hk, ← VC_4 M.1 b hk]
    generalize hM1 : sI (sI (sI (sI M (b' + 1) k (VC M.1 b (4 + k))) (b' + 2) k (VC M.1 b (10 + k))) (b' + 3) k (VC M.1 b (16 + k))) (b' + 4) k (VC M.1 b (22 + k)) = M1
    have f1 : fr (inB b') M M1 := by rw [← hM1]; exact ((((fr.rf (M := M)).put ⟨by omega, by omega⟩).put ⟨by omega, by omega⟩).put ⟨by omega, by omega⟩).put ⟨by omega, by omega⟩
    have v1 : VC M1.1 b' = upd (upd (upd (upd (VC M.1 b') (4 + k) (VC M.1 b (4 + k))) (10 + k) (VC M.1 b (10 + k))) (16 + k) (VC M.1 b (16 + k))) (22 + k) (VC M.1 b (22 + k)) := by
      rw [← hM1, show ∀ x y z w, (sI (sI (sI (sI M (b' + 1) k x) (b' + 2) k y) (b' + 3) k z) (b' + 4) k w).1 = up2 (up2 (up2 (up2 M.1 (b' + 1) k x) (b' + 2) k y) (b' + 3) k z) (b' + 4) k w from fun _ _ _ _ => rfl, VC_u4 _ _ _ hk, VC_u3 _ _ _ hk, VC_u2 _ _ _ hk, VC_u1 _ _ _ hk]
    have vb : VC M1.1 b = VC M.1 b := f1.V (fun a h1 h2 q => by unfold inB at q; omega)
    obtain ⟨M', e1, e2, e3, e4⟩ := c_bcopy_34 hb hb' hd m (k + 1) F M1 (by omega) (by omega)
    refine ⟨M', e1, f1.tr e2, fun j q => ?_, fun i h1 h2 => ?_⟩
    · rw [e3 j (by omega), v1, upd_n _ _ (by omega), upd_n _ _ (by omega), upd_n _ _ (by omega), upd_n _ _ (by omega)]
    · by_cases q : i = k
      · subst q
        rw [e3 _ (by omega), e3 _ (by omega), e3 _ (by omega), e3 _ (by omega), v1, upd_n _ _ (by omega), upd_n _ _ (by omega), upd_n _ _ (by omega), upd_s, upd_n _ _ (by omega), upd_n _ _ (by omega), upd_s, upd_n _ _ (by omega), upd_s, upd_s]
        exact ⟨rfl, rfl, rfl, rfl⟩
      · rw [← vb]; exact e4 i (by omega) h2
theorem c_bcopy (hb : brd b) (hb' : brd b') (hd : b + 8 ≤ b' ∨ b' + 8 ≤ b) (M : mm) : ∃ M', fX0_copy b' b (lay M) = some ((), lay M') ∧ fr (inB b') M M' ∧ ∀ j, j < 40 → VC M'.1 b' j = VC M.1 b j := by
  unfold fX0_copy
  simp only [bo hb', bi0 hb, bi1 hb, bi2 hb, bi3 hb, bp0 hb', bp1 hb', bp2 hb', bp3 hb', Option.bind_some]
  have hne : b ≠ b' := by omega
  rw [sI_o hne, sI_o hne, sI_o hne, sI_o hne, sI_o hne, sI_o hne]
  generalize hM1 : sI (sI (sI (sI M b' 0 (M.1 b 0)) b' 1 (M.1 b 1)) b' 2 (M.1 b 2)) b' 3 (M.1 b 3) = M1
  have f1 : fr (inB b') M M1 := by rw [← hM1]; exact ((((fr.rf (M := M)).put ⟨by omega, by omega⟩).put ⟨by omega, by omega⟩).put ⟨by omega, by omega⟩).put ⟨by omega, by omega⟩
  have v1 : VC M1.1 b' = upd (upd (upd (upd (VC M.1 b') 0 (M.1 b 0)) 1 (M.1 b 1)) 2 (M.1 b 2)) 3 (M.1 b 3) := by
    rw [← hM1, show ∀ x y z w, (sI (sI (sI (sI M b' 0 x) b' 1 y) b' 2 z) b' 3 w).1 = up2 (up2 (up2 (up2 M.1 b' 0 x) b' 1 y) b' 2 z) b' 3 w from fun _ _ _ _ => rfl, VC_u0 _ _ _ (by omega), VC_u0 _ _ _ (by omega), VC_u0 _ _ _ (by omega), VC_u0 _ _ _ (by omega)]
  have vb : VC M1.1 b = VC M.1 b := f1.V (fun a h1 h2 q => by unfold inB at q; omega)
  obtain ⟨M2, a1, a2, a3, a4⟩ := c_bcopy_34 hb hb' hd 6 0 gx_N M1 (by omega) (by unfold gx_N; omega)
  have vb2 : VC M2.1 b = VC M.1 b := by rw [← vb]; exact a2.V (fun a h1 h2 q => by unfold inB at q; omega)
  obtain ⟨M3, c1, c2, c3, c4⟩ := c_bcopy_96 hb hb' hd 4 0 gx_N M2 (by omega) (by unfold gx_N; omega)
  refine ⟨M3, a1.trans c1, (f1.tr a2).tr c2, fun j hj => ?_⟩
  rw [vb] at a4
  rw [vb2] at c4
  by_cases h28 : j < 28
  · rw [c3 j (by omega)]
    by_cases h4 : j < 4
    · rw [a3 j (by omega), v1, VC_0 _ _ h4]
      rcases (show j = 0 ∨ j = 1 ∨ j = 2 ∨ j = 3 by omega) with rfl | rfl | rfl | rfl
      · rw [upd_n _ _ (by omega), upd_n _ _ (by omega), upd_n _ _ (by omega), upd_s]
      · rw [upd_n _ _ (by omega), upd_n _ _ (by omega), upd_s]
      · rw [upd_n _ _ (by omega), upd_s]
      · rw [upd_s]
    by_cases h10 : j < 10
    · have := (a4 (j - 4) (by omega) (by omega)).1; rwa [show 4 + (j - 4) = j by omega] at this
    by_cases h16 : j < 16
    · have := (a4 (j - 10) (by omega) (by omega)).2.1; rwa [show 10 + (j - 10) = j by omega] at this
    by_cases h22 : j < 22
    · have := (a4 (j - 16) (by omega) (by omega)).2.2.1; rwa [show 16 + (j - 16) = j by omega] at this
    · have := (a4 (j - 22) (by omega) (by omega)).2.2.2; rwa [show 22 + (j - 22) = j by omega] at this
  · by_cases h32 : j < 32
    · have := (c4 (j - 28) (by omega) (by omega)).1; rwa [show 28 + (j - 28) = j by omega] at this
    by_cases h36 : j < 36
    · have := (c4 (j - 32) (by omega) (by omega)).2.1; rwa [show 32 + (j - 32) = j by omega] at this
    · have := (c4 (j - 36) (by omega) (by omega)).2.2; rwa [show 36 + (j - 36) = j by omega] at this
end BC
/-! notes and marks -/
def snb (s : Nat) : Prop := isC s 5 = true ∧ isA (s + 1) 0 6 = true ∧ isA (s + 2) 0 6 = true ∧ isA (s + 3) 0 6 = true ∧ isA (s + 4) 0 6 = true
def inS (s : Nat) : Nat → Prop := fun a => s ≤ a ∧ a < s + 5
theorem c_scopy_l {s d : Nat} (h : snb s) (h' : snb d) (hd : s + 5 ≤ d ∨ d + 5 ≤ s) : ∀ (m k F : Nat) (M : mm), k + m = 6 → m < F → ∃ M', fX7_copy_10 F d s (nI k) (lay M) = some ((), lay M') ∧ fr (inS d) M M' ∧ M'.1 d = M.1 d ∧ ∀ t, 1 ≤ t → t ≤ 4 → (∀ i, i < k → M'.1 (d + t) i = M.1 (d + t) i) ∧ ∀ i, k ≤ i → i < 6 → M'.1 (d + t) i = M.1 (s + t) i
  | m, k, 0, M, _, hF => by omega
  | 0, k, F + 1, M, hj, _ => by
    show ∃ M', bX7_copy_10 (fX7_copy_10 F) d s (nI k) (lay M) = _ ∧ _
    unfold bX7_copy_10
    rw [if_pos (show (6 : Int32) ≤ nI k from nI_le (a := 6) (by omega) (by omega))]
    exact ⟨M, rfl, fr.rf, rfl, fun t _ _ => ⟨fun i _ => rfl, fun i h1 h2 => by omega⟩⟩
  | m + 1, k, F + 1, M, hj, hF => by
    have hk : k < 6 := by omega
    show ∃ M', bX7_copy_10 (fX7_copy_10 F) d s (nI k) (lay M) = _ ∧ _
    unfold bX7_copy_10
    have p1 : ∀ M : mm, gx_fR (lay M) s 5 1 = some (s + 1) := fun M => fR_lay (kd_5_1 h.1)
    have p2 : ∀ M : mm, gx_fR (lay M) s 5 2 = some (s + 2) := fun M => fR_lay (kd_5_2 h.1)
    have p3 : ∀ M : mm, gx_fR (lay M) s 5 3 = some (s + 3) := fun M => fR_lay (kd_5_3 h.1)
    have p4 : ∀ M : mm, gx_fR (lay M) s 5 4 = some (s + 4) := fun M => fR_lay (kd_5_4 h.1)
    have q1 : ∀ M : mm, gx_fR (lay M) d 5 1 = some (d + 1) := fun M => fR_lay (kd_5_1 h'.1)
    have q2 : ∀ M : mm, gx_fR (lay M) d 5 2 = some (d + 2) := fun M => fR_lay (kd_5_2 h'.1)
    have q3 : ∀ M : mm, gx_fR (lay M) d 5 3 = some (d + 3) := fun M => fR_lay (kd_5_3 h'.1)
    have q4 : ∀ M : mm, gx_fR (lay M) d 5 4 = some (d + 4) := fun M => fR_lay (kd_5_4 h'.1)
    have g1 : ∀ M : mm, gx_aI 0 (lay M) (s + 1) (nI k) = some (M.1 (s + 1) k) := fun M => aI_lay 6 h.2.1 (by decide) hk (by decide)
    have g2 : ∀ M : mm, gx_aI 0 (lay M) (s + 2) (nI k) = some (M.1 (s + 2) k) := fun M => aI_lay 6 h.2.2.1 (by decide) hk (by decide)
    have g3 : ∀ M : mm, gx_aI 0 (lay M) (s + 3) (nI k) = some (M.1 (s + 3) k) := fun M => aI_lay 6 h.2.2.2.1 (by decide) hk (by decide)
    have g4 : ∀ M : mm, gx_aI 0 (lay M) (s + 4) (nI k) = some (M.1 (s + 4) k) := fun M => aI_lay 6 h.2.2.2.2 (by decide) hk (by decide)
    have r1 : ∀ (M : mm) (x : Int32), gx_sI 0 (lay M) (d + 1) (nI k) x = some (lay (sI M (d + 1) k x)) := fun M x => sI_lay 6 h'.2.1 (by decide) hk (by decide)
    have r2 : ∀ (M : mm) (x : Int32), gx_sI 0 (lay M) (d + 2) (nI k) x = some (lay (sI M (d + 2) k x)) := fun M x => sI_lay 6 h'.2.2.1 (by decide) hk (by decide)
    have r3 : ∀ (M : mm) (x : Int32), gx_sI 0 (lay M) (d + 3) (nI k) x = some (lay (sI M (d + 3) k x)) := fun M x => sI_lay 6 h'.2.2.2.1 (by decide) hk (by decide)
    have r4 : ∀ (M : mm) (x : Int32), gx_sI 0 (lay M) (d + 4) (nI k) x = some (lay (sI M (d + 4) k x)) := fun M x => sI_lay 6 h'.2.2.2.2 (by decide) hk (by decide)
    rw [if_neg (show ¬ (6 : Int32) ≤ nI k from nI_ge (b := 6) (by omega) (by omega))]
    simp only [p1, p2, p3, p4, q1, q2, q3, q4, g1, g2, g3, g4, r1, r2, r3, r4, Option.bind_some, nI_1]
    rw [sI_o (show s + 4 ≠ d + 3 by omega), sI_o (show s + 4 ≠ d + 2 by omega), sI_o (show s + 4 ≠ d + 1 by omega), sI_o (show s + 3 ≠ d + 2 by omega), sI_o (show s + 3 ≠ d + 1 by omega), sI_o (show s + 2 ≠ d + 1 by omega)]
    generalize hM1 : sI (sI (sI (sI M (d + 1) k (M.1 (s + 1) k)) (d + 2) k (M.1 (s + 2) k)) (d + 3) k (M.1 (s + 3) k)) (d + 4) k (M.1 (s + 4) k) = M1
    have f1 : fr (inS d) M M1 := by rw [← hM1]; exact ((((fr.rf (M := M)).put ⟨by omega, by omega⟩).put ⟨by omega, by omega⟩).put ⟨by omega, by omega⟩).put ⟨by omega, by omega⟩
    have z0 : M1.1 d = M.1 d := by rw [← hM1, sI_o (by omega), sI_o (by omega), sI_o (by omega), sI_o (by omega)]
    have zn : ∀ t i, i ≠ k → M1.1 (d + t) i = M.1 (d + t) i := by
      intro t i hi
      rw [← hM1]
      show up2 (up2 (up2 (up2 M.1 (d + 1) k _) (d + 2) k _) (d + 3) k _) (d + 4) k _ (d + t) i = _
      rw [up2_n _ _ (fun q => hi q.2), up2_n _ _ (fun q => hi q.2), up2_n _ _ (fun q => hi q.2), up2_n _ _ (fun q => hi q.2)]
    have zk : ∀ t, 1 ≤ t → t ≤ 4 → M1.1 (d + t) k = M.1 (s + t) k := by
      intro t h1 h2
      rw [← hM1]
      rcases (show t = 1 ∨ t = 2 ∨ t = 3 ∨ t = 4 by omega) with rfl | rfl | rfl | rfl
      · rw [sI_o (by omega), sI_o (by omega), sI_o (by omega), sI_s]
      · rw [sI_o (by omega), sI_o (by omega), sI_s]
      · rw [sI_o (by omega), sI_s]
      · rw [sI_s]
    obtain ⟨M', e1, e2, e3, e4⟩ := c_scopy_l h h' hd m (k + 1) F M1 (by omega) (by omega)
    refine ⟨M', e1, f1.tr e2, e3.trans z0, fun t h1 h2 => ⟨fun i hi => ?_, fun i hi1 hi2 => ?_⟩⟩
    · rw [(e4 t h1 h2).1 i (by omega), zn t i (by omega)]
    · by_cases q : i = k
      · subst q
        rw [(e4 t h1 h2).1 i (by omega), zk t h1 h2]
      · rw [(e4 t h1 h2).2 i (by omega) hi2, f1.2 (s + t) (fun z => by unfold inS at z; omega)]
theorem c_scopy {s d : Nat} (h : snb s) (h' : snb d) (hd : s + 5 ≤ d ∨ d + 5 ≤ s) (M : mm) : ∃ M', fX7_copy d s (lay M) = some ((), lay M') ∧ fr (inS d) M M' ∧ M'.1 d 0 = M.1 s 0 ∧ ∀ t i, 1 ≤ t → t ≤ 4 → i < 6 → M'.1 (d + t) i = M.1 (s + t) i := by
  unfold fX7_copy
  rw [isO_lay h'.1 (by decide), Option.bind_some, fI_lay (kd_5_0 h.1), Option.bind_some, pI_lay (kd_5_0 h'.1), Option.bind_some]
  obtain ⟨M', e1, e2, e3, e4⟩ := c_scopy_l h h' hd 6 0 gx_N (sI M d 0 (M.1 s 0)) (by omega) (by unfold gx_N; omega)
  refine ⟨M', e1, ((fr.rf (M := M)).put ⟨by omega, by omega⟩).tr e2, by rw [e3, sI_s], fun t i h1 h2 h3 => ?_⟩
  rw [(e4 t h1 h2).2 i (by omega) h3, sI_o (by omega)]
