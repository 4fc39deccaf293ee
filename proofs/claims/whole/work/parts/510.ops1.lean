/-! the calls, one by one -/
theorem l64 (k : Nat) (h : k < 2147483648) : (no_index (OfNat.ofNat k : Int64)) = (Int32.ofNat k).toInt64 := by
  apply Int64.toInt_inj.mp
  rw [Int32.toInt_toInt64]
  show (Int64.ofNat k).toInt = (Int32.ofNat k).toInt
  rw [Int64.toInt_ofNat_of_lt (by omega)]
  exact (nI_toInt h).symm
theorem op_status (a : Int32) : Op (fX10_status 0 a) (fX11_status 122 a) := by
  intro M h
  have s := h.2.2.2.2.2.1
  unfold fX10_status fX11_status fX11_status_26
  simp only [o_0, o_122, i_0_8, i_0_9, i_0_10, Option.bind_some, f10_bad, gx_bd_some]
  by_cases c0 : a = 0
  · subst c0
    simp only [if_true]
    refine ⟨_, M, M, rfl, ?_, h⟩
    rw [f11_in, gx_bd_some, b2_t (by decide), if_neg (by decide), r_122_6, Option.bind_some, aI_lit 3 (by decide) (by decide) (by decide) (by decide), Option.bind_some, s.1]
  by_cases c1 : a = 1
  · subst c1
    simp only [show ¬ (1 : Int32) = 0 from by decide, if_true, if_false]
    refine ⟨_, M, M, rfl, ?_, h⟩
    rw [f11_in, gx_bd_some, b2_t (by decide), if_neg (by decide), r_122_6, Option.bind_some, aI_lit 3 (by decide) (by decide) (by decide) (by decide), Option.bind_some, s.2.1]
  by_cases c2 : a = 2
  · subst c2
    simp only [show ¬ (2 : Int32) = 0 from by decide, show ¬ (2 : Int32) = 1 from by decide, if_true, if_false]
    refine ⟨_, M, M, rfl, ?_, h⟩
    rw [f11_in, gx_bd_some, b2_t (by decide), if_neg (by decide), r_122_6, Option.bind_some, aI_lit 3 (by decide) (by decide) (by decide) (by decide), Option.bind_some, s.2.2]
  simp only [c0, c1, c2, if_false]
  refine ⟨_, badC M, badR (badC M), rfl, ?_, h.bad⟩
  have hn : ¬ ((0 : Int64) ≤ a.toInt64 ∧ a.toInt64 ≤ 2) := by
    rw [show (0 : Int64) = (0 : Int32).toInt64 from rfl, show (2 : Int64) = (2 : Int32).toInt64 from rfl, b_le, b_le]
    intro q
    obtain ⟨j, hj0, hj, rfl⟩ := in_n (a := 0) (b := 2) (by omega) q (by omega)
    rcases (show j = 0 ∨ j = 1 ∨ j = 2 by omega) with rfl | rfl | rfl
    · exact c0 rfl
    · exact c1 rfl
    · exact c2 rfl
  rw [f11_in, gx_bd_some, b2_f hn, if_pos rfl, f11_bad', gx_bd_some]
theorem op_part (a : Int32) : Op (fX10_part 0 a) (fX11_part 122 a) := by
  intro M h
  have s := h.2.2.2.2.1
  unfold fX10_part fX11_part fX10_part_32 fX11_part_30
  simp only [o_0, o_122, j_0_6, j_0_7, j_122_4, j_122_5, Option.bind_some, f10_within, f11_bad', gx_bd_some]
  by_cases c0 : a = 0
  · subst c0
    rw [b2_t (by decide), if_neg (by decide)]
    simp only [if_true]
    exact ⟨_, M, M, rfl, by rw [s.1], h⟩
  by_cases c1 : a = 1
  · subst c1
    rw [b2_t (by decide), if_neg (by decide), if_neg (by decide)]
    refine ⟨_, M, M, rfl, ?_, h⟩
    rw [if_neg (by decide), if_pos rfl, s.2]
  have hn : ¬ (0 ≤ a ∧ a ≤ 1) := by
    intro q
    obtain ⟨j, hj0, hj, rfl⟩ := in_n (a := 0) (b := 1) (by omega) q (by omega)
    rcases (show j = 0 ∨ j = 1 by omega) with rfl | rfl
    · exact c0 rfl
    · exact c1 rfl
  rw [b2_f hn, if_pos rfl, f10_bad, gx_bd_some]
  refine ⟨_, badC M, badR (badC M), rfl, ?_, h.bad⟩
  rw [if_neg c0, if_neg c1]
theorem op_clear : Op (fX10_clear 0) (fX11_clear 122) := by
  intro M h
  obtain ⟨h1, h2, h3, h4, h5, h6, h7⟩ := id h
  obtain ⟨t, t1, t2, t3, t4⟩ := h4
  unfold fX10_clear fX11_clear fX9_empty
  simp only [o_0, o_90, o_122, r_0_3, i_90_0, pi_90_0, i_122_3, pi_122_3, Option.bind_some, gx_bd_some]
  refine ⟨_, sI M 90 0 0, sI (sI M 90 0 0) 122 3 0, rfl, ?_, ?_⟩
  · rw [sI_o (by omega), t2, t3]
  · have o : ∀ a, a ≠ 90 → a ≠ 122 → (sI (sI M 90 0 0) 122 3 0).1 a = M.1 a := fun a q1 q2 => by rw [sI_o q2, sI_o q1]
    refine ⟨h1.eq (fun a _ _ => o a (by omega) (by omega)) rfl (fun j _ _ => by rw [o 123 (by omega) (by omega)]), ?_, ?_, ?_, h5, ?_, h7⟩
    · refine ⟨by rw [o 89 (by omega) (by omega), o 124 (by omega) (by omega)]; exact h2.1, ?_⟩
      rw [o 89 (by omega) (by omega)]
      rcases h2.2 with z | ⟨z, z2⟩
      · exact Or.inl z
      · exact Or.inr ⟨z, z2.eq (fun a _ _ => o a (by omega) (by omega)) rfl (fun j _ _ => by rw [o 123 (by omega) (by omega)])⟩
    · refine ⟨by rw [o 89 (by omega) (by omega), o 124 (by omega) (by omega)]; exact h3.1, ?_⟩
      rw [o 89 (by omega) (by omega)]
      rcases h3.2 with z | ⟨z, z2⟩
      · exact Or.inl z
      · exact Or.inr ⟨z, z2.eq (fun a _ _ => o a (by omega) (by omega)) rfl (fun j _ _ => by rw [o 123 (by omega) (by omega)])⟩
    · exact ⟨0, by omega, by rw [sI_o (by omega), sI_s]; rfl, by rw [sI_s]; rfl, fun k hk => by omega⟩
    · unfold ST; rw [o 0 (by omega) (by omega), o 126 (by omega) (by omega)]; exact h6
theorem l32 (k : Nat) : (no_index (OfNat.ofNat k : Int32)) = nI k := rfl
theorem op_type (a : Int32) : Op (fX10_type 0 a) (fX11_type 122 a) := by
  intro M h
  obtain ⟨h1, h2, h3, h4, h5, h6, h7⟩ := id h
  obtain ⟨t, t1, t2, t3, t4⟩ := h4
  unfold fX10_type fX11_type
  simp only [o_0, o_122, r_0_3, r_122_2, i_90_0, i_122_3, Option.bind_some, f10_within, f11_in, gx_bd_some, f10_bad, f11_bad', f10_full, f11_full', show (0 : Int64) = (0 : Int32).toInt64 from rfl, show (127 : Int64) = (127 : Int32).toInt64 from rfl, b_le]
  by_cases c : 0 ≤ a ∧ a ≤ 127
  · rw [b2_t c, if_neg (by decide)]
    obtain ⟨ch, hch0, hch, rfl⟩ := in_n (a := 0) (b := 127) (by omega) c (by omega)
    by_cases c2 : t = 150
    · rw [t2, if_neg (by rw [c2]; decide)]
      refine ⟨_, fullC M, fullR (fullC M), rfl, ?_, h.full⟩
      rw [if_neg (by decide), show (fullC M).1 122 3 = M.1 122 3 from by unfold fullC; rw [sI_o (by omega)], t3, if_pos (by rw [c2]; rfl)]
    · have ht : t < 150 := by omega
      rw [t2, if_pos (show nI t < (150 : Int32) from nI_lt (b := 150) ht (by omega))]
      have eb : vp_nar .byte ((nI ch).toInt8.toInt32) = nI ch := by
        rw [vp_nar_byte]
        have hall : ∀ x, x < 128 → (nI x).toInt8.toInt32.toInt8.toInt32 = nI x := by decide +kernel
        exact hall ch (by omega)
      unfold fX9_append fX9_append_31
      simp only [o_90, i_90_0, r_90_2, Option.bind_some, eb]
      rw [t2, if_neg (show ¬ (150 : Int32) ≤ nI t from nI_ge (b := 150) ht (by omega)), sI_lay 150 (by decide) (by decide) ht (by decide)]
      simp only [i_90_0, pi_90_0, Option.bind_some, gx_bd_some]
      rw [sI_s, sI_o (show 90 ≠ 99 by omega), t2, nI_1]
      refine ⟨_, sI (sI M 99 t (nI ch)) 90 0 (nI (t + 1)), sI (sI (sI (sI M 99 t (nI ch)) 90 0 (nI (t + 1))) 125 t (nI ch)) 122 3 (nI (t + 1)), rfl, ?_, ?_⟩
      · rw [if_neg (by decide)]
        have e3 : (sI (sI M 99 t (nI ch)) 90 0 (nI (t + 1))).1 122 3 = nI t := by rw [sI_o (by omega), sI_o (by omega), t3]
        rw [e3, if_neg (show ¬ nI t = (150 : Int32) from fun q => c2 ((nI_eq (b := 150) (by omega) (by omega)).mp q)), sI_lay 150 (by decide) (by decide) ht (by decide)]
        simp only [i_122_3, pi_122_3, Option.bind_some]
        rw [sI_s, sI_o (show 122 ≠ 125 by omega), e3, nI_1]
      · have o : ∀ a, a ≠ 90 → a ≠ 99 → a ≠ 122 → a ≠ 125 → (sI (sI (sI (sI M 99 t (nI ch)) 90 0 (nI (t + 1))) 125 t (nI ch)) 122 3 (nI (t + 1))).1 a = M.1 a := fun a q1 q2 q3 q4 => by rw [sI_o q3, sI_o q4, sI_o q1, sI_o q2]
        refine ⟨h1.eq (fun a _ _ => o a (by omega) (by omega) (by omega) (by omega)) rfl (fun j _ _ => by rw [o 123 (by omega) (by omega) (by omega) (by omega)]), ?_, ?_, ?_, h5, ?_, h7⟩
        · refine ⟨by rw [o 89 (by omega) (by omega) (by omega) (by omega), o 124 (by omega) (by omega) (by omega) (by omega)]; exact h2.1, ?_⟩
          rw [o 89 (by omega) (by omega) (by omega) (by omega)]
          rcases h2.2 with z | ⟨z, z2⟩
          · exact Or.inl z
          · exact Or.inr ⟨z, z2.eq (fun a _ _ => o a (by omega) (by omega) (by omega) (by omega)) rfl (fun j _ _ => by rw [o 123 (by omega) (by omega) (by omega) (by omega)])⟩
        · refine ⟨by rw [o 89 (by omega) (by omega) (by omega) (by omega), o 124 (by omega) (by omega) (by omega) (by omega)]; exact h3.1, ?_⟩
          rw [o 89 (by omega) (by omega) (by omega) (by omega)]
          rcases h3.2 with z | ⟨z, z2⟩
          · exact Or.inl z
          · exact Or.inr ⟨z, z2.eq (fun a _ _ => o a (by omega) (by omega) (by omega) (by omega)) rfl (fun j _ _ => by rw [o 123 (by omega) (by omega) (by omega) (by omega)])⟩
        · refine ⟨t + 1, by omega, by rw [sI_o (by omega), sI_o (by omega), sI_s], by rw [sI_s], fun k hk => ?_⟩
          rw [sI_o (show 99 ≠ 122 by omega), sI_o (show 99 ≠ 125 by omega), sI_o (show 99 ≠ 90 by omega), sI_o (show 125 ≠ 122 by omega)]
          by_cases e : k = t
          · subst e
            rw [sI_s, sI_s]
            exact ⟨rfl, nI_bn (by omega) (by omega) (by omega)⟩
          · rw [sI_n e, sI_n e, sI_o (show 125 ≠ 90 by omega), sI_o (show 125 ≠ 99 by omega)]
            exact t4 k (by omega)
        · unfold ST; rw [o 0 (by omega) (by omega) (by omega) (by omega), o 126 (by omega) (by omega) (by omega) (by omega)]; exact h6
  · rw [b2_f c, if_pos rfl]
    refine ⟨_, badC M, badR (badC M), rfl, ?_, h.bad⟩
    rw [if_pos rfl]
