/-! image, from -/
theorem Inv.st1 {M : mm} (h : Inv M) : ∃ q, stp M 1 q ∧ ∀ i j, i < 8 → j < 8 → q i = q j → i = j := by
  obtain ⟨n, np, hs, q, g⟩ := h.gm
  exact ⟨q, g.2.2.2.2.2.2.2.1, g.2.2.2.2.2.2.2.2.1⟩
theorem stp_uniq {M : mm} {g : Nat} {q q2 : Nat → Nat} (h : stp M g q) (h2 : stp M g q2) : ∀ j, j < 8 → q j = q2 j := fun j hj => by
  have := (h j hj).1.symm.trans (h2 j hj).1
  have := Option.some.inj this
  omega
theorem op_image (a : Int32) : Op (fX10_image 0 a) (fX11_image 122 a) := by
  intro M h
  unfold fX10_image fX11_image
  simp only [o_0, o_122, r_0_0, r_0_1, r_0_2, Option.bind_some, f10_within, f11_in, gx_bd_some, f10_bad, f11_bad', show (0 : Int64) = (0 : Int32).toInt64 from rfl, show (1 : Int64) = (1 : Int32).toInt64 from rfl, b_le]
  by_cases c1 : 0 ≤ a ∧ a ≤ 1
  case neg =>
    rw [b2_f c1, if_pos rfl]
    refine ⟨_, badC M, badR (badC M), rfl, ?_, h.bad⟩
    rw [if_pos rfl]
  rw [b2_t c1, if_neg (by decide)]
  obtain ⟨k, _, hk, rfl⟩ := in_n (a := 0) (b := 1) (by omega) c1 (by omega)
  have hP := h.2.2.2.2.2.2
  obtain ⟨g', hg', hg1, hP0, qd, hq1, hq2⟩ : ∃ g', gam g' ∧ g' = 31 + 29 * k ∧ M.2.2 30 k = some g' ∧ IP M g' := by
    rcases (show k = 0 ∨ k = 1 by omega) with rfl | rfl
    · exact ⟨31, gam_31, rfl, hP.2.1, hP.2.2.2.1⟩
    · exact ⟨60, gam_60, rfl, hP.2.2.1, hP.2.2.2.2⟩
  obtain ⟨qs, hs1, hs2⟩ := h.st1
  obtain ⟨M1, a1, a2, a3, a4, a5, a6, a7⟩ := c_gcopy (M := M) (q := qs) (q' := qd) gam_1 hg' (by omega) hq2 hs1 hq1
  rw [aR_lay 2 (show isA 30 4 2 = true by decide) (by decide) (by omega) (by decide), hP0, Option.bind_some, a1, gx_bd_some, r_0_2, Option.bind_some, sI_lay 2 (show isA 89 2 2 = true by decide) (by decide) (by omega) (by decide), Option.bind_some]
  have hv : vp_nar .boolean (1 : Int32) = 1 := rfl
  rw [hv]
  obtain ⟨M2, b1, b2, b3⟩ := r_copy (a := 0) (c := 203 + 203 * k) (by omega) (by omega) (by omega) (sI M1 89 k 1)
  refine ⟨_, sI M1 89 k 1, sI M2 124 k 1, rfl, ?_, ?_⟩
  · have ei : (203 : Int32) + (203 : Int32) * nI k = nI (203 + 203 * k) := by rw [show (203 : Int32) = nI 203 from rfl, pk_mul, nI_add]
    have b1' : fX11_copy 122 0 (nI (203 + 203 * k)) (lay (sI M1 89 k 1)) = some ((), lay M2) := b1
    rw [if_neg (by decide), ei, b1', gx_bd_some, r_122_1, Option.bind_some, sI_lay 2 (show isA 124 2 2 = true by decide) (by decide) (by omega) (by decide), Option.bind_some]
  · have fc : ∀ c, c < g' ∨ g' + 29 ≤ c → c ≠ 89 → c ≠ 123 → c ≠ 124 → (sI M2 124 k 1).1 c = M.1 c := fun c z1 z2 z3 z4 => by rw [sI_o z4, b2.2.1 c z3, sI_o z2, a2.2 c (by omega)]
    have fg : ∀ c, c ≠ 89 → c ≠ 123 → c ≠ 124 → (sI M2 124 k 1).1 c = M1.1 c := fun c z2 z3 z4 => by rw [sI_o z4, b2.2.1 c z3, sI_o z2]
    have fp : (sI M2 124 k 1).2 = M.2 := (b2.1 : M2.2 = M1.2).trans a2.1
    have w123 : M1.1 123 = M.1 123 := a2.2 123 (by omega)
    have fw : ∀ j, j < 203 + 203 * k ∨ 406 + 203 * k ≤ j → (sI M2 124 k 1).1 123 j = M.1 123 j := fun j hj => by rw [sI_o (by omega), b2.2.2 j (by omega), sI_o (by omega), w123]
    have fi : ∀ i, i < 203 → (sI M2 124 k 1).1 123 (203 + 203 * k + i) = M.1 123 (0 + i) := fun i hi => by rw [sI_o (by omega), b3 i hi, sI_o (by omega), w123]
    have k89 : (sI M2 124 k 1).1 89 k = 1 := by rw [sI_o (by omega), b2.2.1 89 (by omega), sI_s]
    have k124 : (sI M2 124 k 1).1 124 k = 1 := by rw [sI_s]
    have o89 : ∀ j, j ≠ k → (sI M2 124 k 1).1 89 j = M.1 89 j := fun j hj => by rw [sI_o (by omega), b2.2.1 89 (by omega), sI_n hj, a2.2 89 (by omega)]
    have o124 : ∀ j, j ≠ k → (sI M2 124 k 1).1 124 j = M.1 124 j := fun j hj => by rw [sI_n hj, b2.2.1 124 (by omega), sI_o (by omega), a2.2 124 (by omega)]
    generalize sI M2 124 k 1 = M3 at fc fg fp fw fi k89 k124 o89 o124 ⊢
    have hnew : RG M3 g' (203 + 203 * k) := by
      refine RG_copy (r := 0) h.1 (q' := qd) (by unfold stp; rw [fp]; exact hq1) hq2 (fun j hj => ?_) ?_ (fun q hq i hi t ht => ?_) ⟨?_, fun t i h1 h2 h3 => ?_⟩ ⟨?_, fun t i h1 h2 h3 => ?_⟩ fi
      · rw [show VC M3.1 (g' + 1) = VC M1.1 (g' + 1) from VC_eq (fun a z1 z2 => fg a (by omega) (by omega) (by omega))]; exact a3 j hj
      · rw [fg _ (by omega) (by omega) (by omega)]; exact a4
      · have := (hq1 i hi).2
        rw [fg _ (by omega) (by omega) (by omega), a5 i hi t ht, stp_uniq hs1 hq i hi]
      · rw [fg _ (by omega) (by omega) (by omega)]; exact a6.1
      · rw [fg _ (by omega) (by omega) (by omega)]; exact a6.2 t i h1 h2 h3
      · rw [fg _ (by omega) (by omega) (by omega)]; exact a7.1
      · rw [fg _ (by omega) (by omega) (by omega)]; exact a7.2 t i h1 h2 h3
    obtain ⟨h1, h2, h3, h4, h5, h6, h7⟩ := h
    have old : ∀ q g r, q ≠ k → (g = 31 + 29 * q) → r = 203 + 203 * q → q ≤ 1 → IM M q g r → IM M3 q g r := by
      intro q g r z1 z2 z3 z4 him
      refine ⟨by rw [o89 q z1, o124 q z1]; exact him.1, ?_⟩
      rw [o89 q z1]
      rcases him.2 with z | ⟨z, z'⟩
      · exact Or.inl z
      · exact Or.inr ⟨z, z'.eq (fun a y1 y2 => fc a (by omega) (by omega) (by omega) (by omega)) (by rw [fp]) (fun j y1 y2 => fw j (by omega))⟩
    refine ⟨h1.eq (fun a y1 y2 => fc a (by omega) (by omega) (by omega) (by omega)) (by rw [fp]) (fun j y1 y2 => fw j (by omega)), ?_, ?_, ?_, ?_, ?_, ?_⟩
    · by_cases z : k = 0
      · subst z; subst hg1
        exact ⟨k89.trans k124.symm, Or.inr ⟨k89, hnew⟩⟩
      · exact old 0 31 203 (by omega) rfl rfl (by omega) h2
    · by_cases z : k = 1
      · subst z; subst hg1
        exact ⟨k89.trans k124.symm, Or.inr ⟨k89, hnew⟩⟩
      · exact old 1 60 406 (by omega) rfl rfl (by omega) h3
    · obtain ⟨t, t1, t2, t3, t4⟩ := h4
      exact ⟨t, t1, by rw [fc 90 (by omega) (by omega) (by omega) (by omega)]; exact t2, by rw [fc 122 (by omega) (by omega) (by omega) (by omega)]; exact t3, fun j hj => by rw [fc 99 (by omega) (by omega) (by omega) (by omega), fc 125 (by omega) (by omega) (by omega) (by omega)]; exact t4 j hj⟩
    · unfold FQ; rw [fp]; exact h5
    · unfold ST; rw [fc 0 (by omega) (by omega) (by omega) (by omega), fc 126 (by omega) (by omega) (by omega) (by omega)]; exact h6
    · unfold PP IP; rw [fp]; exact h7
theorem op_from (a : Int32) : Op (fX10_from 0 a) (fX11_from 122 a) := by
  intro M h
  unfold fX10_from fX11_from
  simp only [o_0, o_122, r_0_0, r_0_1, r_0_2, r_122_1, Option.bind_some, f10_within, f11_in, gx_bd_some, f10_bad, f11_bad', f10_no, f11_no', show (0 : Int64) = (0 : Int32).toInt64 from rfl, show (1 : Int64) = (1 : Int32).toInt64 from rfl, b_le]
  by_cases c1 : 0 ≤ a ∧ a ≤ 1
  case neg =>
    rw [b2_f c1, if_pos rfl]
    refine ⟨_, badC M, badR (badC M), rfl, ?_, h.bad⟩
    rw [if_pos rfl]
  rw [b2_t c1, if_neg (by decide)]
  obtain ⟨k, _, hk, rfl⟩ := in_n (a := 0) (b := 1) (by omega) c1 (by omega)
  have hP := h.2.2.2.2.2.2
  obtain ⟨g, hg, hg1, hP0, him⟩ : ∃ g, gam g ∧ g = 31 + 29 * k ∧ M.2.2 30 k = some g ∧ IM M k g (203 + 203 * k) := by
    rcases (show k = 0 ∨ k = 1 by omega) with rfl | rfl
    · exact ⟨31, gam_31, rfl, hP.2.1, h.2.1⟩
    · exact ⟨60, gam_60, rfl, hP.2.2.1, h.2.2.1⟩
  have g89 : ∀ M : mm, gx_aI 2 (lay M) 89 (nI k) = some (M.1 89 k) := fun M => aI_lay 2 (show isA 89 2 2 = true by decide) (by decide) (by omega) (by decide)
  have g124 : ∀ M : mm, gx_aI 2 (lay M) 124 (nI k) = some (M.1 124 k) := fun M => aI_lay 2 (show isA 124 2 2 = true by decide) (by decide) (by omega) (by decide)
  simp only [g89, g124, Option.bind_some]
  by_cases c2 : M.1 89 k = 0
  · rw [if_pos c2]
    refine ⟨_, noC M, noR (noC M), rfl, ?_, h.no⟩
    rw [if_neg (by decide), show (noC M).1 124 = M.1 124 from by unfold noC; rw [sI_o (by omega)], ← him.1, if_pos c2]
  rw [if_neg c2]
  have hrg : RG M g (203 + 203 * k) := by
    rcases him.2 with z | ⟨z, z'⟩
    · exact absurd z c2
    · exact z'
  obtain ⟨n, np, hs, qs, gg⟩ := RG_iff.mp hrg
  have hs1 : stp M g qs := gg.2.2.2.2.2.2.2.1
  obtain ⟨qd, hq1, hq2⟩ := h.st1
  obtain ⟨M1, a1, a2, a3, a4, a5, a6, a7⟩ := c_gcopy (M := M) (q := qs) (q' := qd) hg gam_1 (by omega) hq2 hs1 hq1
  rw [aR_lay 2 (show isA 30 4 2 = true by decide) (by decide) (by omega) (by decide), hP0, Option.bind_some, a1, gx_bd_some]
  obtain ⟨M2, b1, b2, b3⟩ := r_copy (a := 203 + 203 * k) (c := 0) (by omega) (by omega) (by omega) M1
  refine ⟨_, M1, M2, rfl, ?_, ?_⟩
  · have ei : (203 : Int32) + (203 : Int32) * nI k = nI (203 + 203 * k) := by rw [show (203 : Int32) = nI 203 from rfl, pk_mul, nI_add]
    have b1' : fX11_copy 122 (nI (203 + 203 * k)) 0 (lay M1) = some ((), lay M2) := b1
    rw [if_neg (by decide), a2.2 124 (by omega), ← him.1, if_neg c2, ei, b1', gx_bd_some]
  · have fc : ∀ c, c < 1 ∨ 30 ≤ c → c ≠ 123 → M2.1 c = M.1 c := fun c z1 z2 => by rw [b2.2.1 c z2, a2.2 c (by omega)]
    have fg : ∀ c, c ≠ 123 → M2.1 c = M1.1 c := fun c z => b2.2.1 c z
    have fp : M2.2 = M.2 := b2.1.trans a2.1
    have w123 : M1.1 123 = M.1 123 := a2.2 123 (by omega)
    refine h.game (RG_copy hrg (q' := qd) (by unfold stp; rw [fp]; exact hq1) hq2 (fun j hj => ?_) ?_ (fun q hq i hi t ht => ?_) ⟨?_, fun t i h1 h2 h3 => ?_⟩ ⟨?_, fun t i h1 h2 h3 => ?_⟩ (fun i hi => ?_)) (fun a _ => by rw [fp]) (by rw [fp]) (fun a z1 z2 => fc a (by omega) (by omega)) (fun j z1 z2 => by rw [b2.2.2 j (by omega), w123]) ?_
    · rw [show VC M2.1 (1 + 1) = VC M1.1 (1 + 1) from VC_eq (fun a z1 z2 => fg a (by omega))]; exact a3 j hj
    · rw [fg _ (by omega)]; exact a4
    · have := (hq1 i hi).2
      rw [fg _ (by omega), a5 i hi t ht, stp_uniq hs1 hq i hi]
    · rw [fg _ (by omega)]; exact a6.1
    · rw [fg _ (by omega)]; exact a6.2 t i h1 h2 h3
    · rw [fg _ (by omega)]; exact a7.1
    · rw [fg _ (by omega)]; exact a7.2 t i h1 h2 h3
    · rw [b3 i hi, w123]
    · unfold ST; rw [fc 0 (by omega) (by omega), fc 126 (by omega) (by omega)]; exact h.2.2.2.2.2.1
