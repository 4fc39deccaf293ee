/-! board: all anew -/
theorem r_empties_l {r : Nat} (hr : r + 203 ≤ 852) : ∀ (m j F : Nat) (M : mm), j + m = 203 → m < F → ∃ M', fX11_empties_2 F 122 (nI r) (nI j) (lay M) = some ((), lay M') ∧ frW (r + j) (r + 203) M M' ∧ ∀ i, j ≤ i → i < 203 → M'.1 123 (r + i) = 0
  | m, j, 0, M, _, hF => by omega
  | 0, j, F + 1, M, hj, _ => by
    show ∃ M', bX11_empties_2 (fX11_empties_2 F) 122 (nI r) (nI j) (lay M) = _ ∧ _
    unfold bX11_empties_2
    rw [if_pos (show (203 : Int32) ≤ nI j from nI_le (a := 203) (by omega) (by omega))]
    exact ⟨M, rfl, frW.rf, fun i h1 h2 => by omega⟩
  | m + 1, j, F + 1, M, hj, hF => by
    show ∃ M', bX11_empties_2 (fX11_empties_2 F) 122 (nI r) (nI j) (lay M) = _ ∧ _
    unfold bX11_empties_2
    rw [if_neg (show ¬ (203 : Int32) ≤ nI j from nI_ge (b := 203) (by omega) (by omega))]
    simp only [r_122_0, Option.bind_some, nI_add, nIl, rs (show r + j < 852 by omega)]
    obtain ⟨M', e1, e2, e3⟩ := r_empties_l hr m (j + 1) F (sI M 123 (r + j) 0) (by omega) (by omega)
    refine ⟨M', e1, ((frW.rf (M := M)).put (j := r + j) (x := 0) (by omega) (by omega)).tr (e2.mono (by omega) (by omega)), fun i h1 h2 => ?_⟩
    by_cases q : i = j
    · subst q; rw [e2.2.2 (r + i) (by omega), sI_s]
    · exact e3 i (by omega) h2
theorem r_empties {r : Nat} (hr : r + 203 ≤ 852) (M : mm) : ∃ M', fX11_empties 122 (nI r) (lay M) = some ((), lay M') ∧ frW r (r + 203) M M' ∧ ∀ i, i < 203 → M'.1 123 (r + i) = 0 := by
  unfold fX11_empties
  rw [o_122, Option.bind_some]
  obtain ⟨M', e1, e2, e3⟩ := r_empties_l hr 203 0 gx_N M (by omega) (by unfold gx_N; omega)
  exact ⟨M', e1, e2, fun i hi => e3 i (by omega) hi⟩
theorem op_board (a b : Int32) : Op (fX10_board 0 a b) (fX11_board 122 a b) := by
  intro M h
  obtain ⟨n, np, hs, q, g⟩ := h.gm
  unfold fX10_board fX11_board fX10_board_21 fX11_board_28 fX1_dropPast fX3_empty fX7_empty fX0_start
  simp only [o_0, o_1, o_122, o_10, o_20, o_25, r_0_0, r_1_0, r_1_1, r_1_2, r_1_3, r_122_0, bi3 brd_2, bo brd_2, bp0 brd_2, bp1 brd_2, bp2 brd_2, bp3 brd_2, pi_10_0, i_20_0, pi_20_0, i_25_0, pi_25_0, Option.bind_some, f10_within, f11_in, gx_bd_some, f10_bad, f11_bad', show (10 : Int64) = (10 : Int32).toInt64 from rfl, show (40 : Int64) = (40 : Int32).toInt64 from rfl, show (2 : Int64) = (2 : Int32).toInt64 from rfl, show (6 : Int64) = (6 : Int32).toInt64 from rfl, b_le]
  by_cases c1 : 10 ≤ a ∧ a ≤ 40
  case neg =>
    rw [b2_f c1, if_pos rfl]
    refine ⟨_, badC M, badR (badC M), rfl, ?_, h.bad⟩
    rw [if_pos rfl]
  rw [b2_t c1, if_neg (by decide)]
  by_cases c2 : 2 ≤ b ∧ b ≤ 6
  case neg =>
    rw [b2_f c2, if_pos rfl]
    refine ⟨_, badC M, badR (badC M), rfl, ?_, h.bad⟩
    rw [if_neg (by decide), if_pos rfl]
  rw [b2_t c2, if_neg (by decide)]
  obtain ⟨l, hl0, hl, rfl⟩ := in_n (a := 10) (b := 40) (by omega) c1 (by omega)
  obtain ⟨d, hd0, hd, rfl⟩ := in_n (a := 2) (b := 6) (by omega) c2 (by omega)
  generalize hM1 : sI (sI (sI (sI (sI (sI (sI M 10 0 0) 20 0 0) 25 0 0) 2 0 (nI l)) 2 1 (nI d)) 2 2 0) 2 3 0 = M1
  have e2 : M1.2 = M.2 := by rw [← hM1]; rfl
  have ec : ∀ c, c ≠ 2 → c ≠ 10 → c ≠ 20 → c ≠ 25 → M1.1 c = M.1 c := fun c q1 q2 q3 q4 => by rw [← hM1, sI_o q1, sI_o q1, sI_o q1, sI_o q1, sI_o q4, sI_o q3, sI_o q2]
  have v3 : M1.1 2 3 = 0 := by rw [← hM1, sI_s]
  have v2 : M1.1 2 2 = 0 := by rw [← hM1, sI_n (by omega), sI_s]
  have v1 : M1.1 2 1 = nI d := by rw [← hM1, sI_n (by omega), sI_n (by omega), sI_s]
  have v0 : M1.1 2 0 = nI l := by rw [← hM1, sI_n (by omega), sI_n (by omega), sI_n (by omega), sI_s]
  have v25 : M1.1 25 0 = 0 := by rw [← hM1, sI_o (by omega), sI_o (by omega), sI_o (by omega), sI_o (by omega), sI_s]
  have v20 : M1.1 20 0 = 0 := by rw [← hM1, sI_o (by omega), sI_o (by omega), sI_o (by omega), sI_o (by omega), sI_o (by omega), sI_s]
  have v10 : M1.1 10 0 = 0 := by rw [← hM1, sI_o (by omega), sI_o (by omega), sI_o (by omega), sI_o (by omega), sI_o (by omega), sI_o (by omega), sI_s]
  clear hM1
  obtain ⟨M', e1, f1, z1⟩ := r_empties (r := 0) (by omega) M1
  have z : ∀ i, i < 203 → M'.1 123 i = 0 := fun i hi => by have := z1 i hi; rwa [Nat.zero_add] at this
  refine ⟨_, M1, sI (sI M' 123 0 (nI l)) 123 1 (nI d), rfl, ?_, ?_⟩
  · rw [if_neg (by decide), if_neg (by decide), show (3 : Int32) = nI 3 from rfl, ra (by omega), Option.bind_some, show (0 : Int32) = nI 0 from rfl, e1, gx_bd_some]
    simp only [r_122_0, Option.bind_some]
    rw [rs (by omega), Option.bind_some]
    simp only [r_122_0, Option.bind_some]
    rw [show (1 : Int32) = nI 1 from rfl, rs (by omega), Option.bind_some, ec 123 (by omega) (by omega) (by omega) (by omega), g.w3]
  · have cc : ∀ c, c ≠ 123 → (sI (sI M' 123 0 (nI l)) 123 1 (nI d)).1 c = M1.1 c := fun c hc => by rw [sI_o hc, sI_o hc, f1.2.1 c hc]
    have ww : ∀ j, 1 < j → (sI (sI M' 123 0 (nI l)) 123 1 (nI d)).1 123 j = M'.1 123 j := fun j hj => by rw [sI_n (by omega), sI_n (by omega)]
    have w0 : (sI (sI M' 123 0 (nI l)) 123 1 (nI d)).1 123 0 = nI l := by rw [sI_n (by omega), sI_s]
    have w1 : (sI (sI M' 123 0 (nI l)) 123 1 (nI d)).1 123 1 = nI d := by rw [sI_s]
    have p2 : (sI (sI M' 123 0 (nI l)) 123 1 (nI d)).2 = M.2 := f1.1.trans e2
    generalize sI (sI M' 123 0 (nI l)) 123 1 (nI d) = M2 at cc ww w0 w1 p2 ⊢
    refine h.game2 (n := 0) (np := 0) (hs := 0) (q := q) ⟨?_, ?_, ⟨0, by omega, ?_, ?_, fun e he => by omega, fun e he => by omega⟩, ⟨0, by omega, ?_, ?_, fun e he => by omega, fun e he => by omega⟩, by omega, ?_, ?_, ?_, g.2.2.2.2.2.2.2.2.1, trivial⟩ (fun a _ => by rw [p2]) (by rw [p2]) (fun a q1 q2 => by rw [cc a q2, ec a (by omega) (by omega) (by omega) (by omega)]) (by rw [cc 0 (by omega), ec 0 (by omega) (by omega) (by omega) (by omega)]) (fun j q1 q2 => by rw [ww j (by omega), f1.2.2 j (by omega), ec 123 (by omega) (by omega) (by omega) (by omega)])
    · refine ⟨?_, by omega, ?_, by omega, ?_, ?_, fun k hk => by omega, fun i hi => by omega⟩
      · rw [VC_0 _ _ (by omega), cc 2 (by omega), v2]; rfl
      · rw [VC_0 _ _ (by omega), cc 2 (by omega), v3]; rfl
      · rw [VC_0 _ _ (by omega), cc 2 (by omega), v0]; exact nI_bn (by omega) (by omega) (by omega)
      · rw [VC_0 _ _ (by omega), cc 2 (by omega), v1]; exact nI_bn (by omega) (by omega) (by omega)
    · refine ⟨?_, ?_, ?_, ?_, fun k hk => by omega, fun i hi => by omega⟩
      · rw [VC_0 _ _ (by omega), cc 2 (by omega), v0, VR0, w0]
      · rw [VC_0 _ _ (by omega), cc 2 (by omega), v1, VR0, w1]
      · rw [VC_0 _ _ (by omega), cc 2 (by omega), v2, VR0, ww 2 (by omega), z 2 (by omega)]
      · rw [VC_0 _ _ (by omega), cc 2 (by omega), v3, VR0, ww 3 (by omega), z 3 (by omega)]
    · show M2.1 20 0 = _; rw [cc 20 (by omega), v20]; rfl
    · rw [VR0, ww 40 (by omega), z 40 (by omega)]; rfl
    · show M2.1 25 0 = _; rw [cc 25 (by omega), v25]; rfl
    · rw [VR0, ww 65 (by omega), z 65 (by omega)]; rfl
    · rw [cc 10 (by omega), v10]; rfl
    · rw [ww 90 (by omega), z 90 (by omega)]; rfl
    · rw [p2]; exact g.2.2.2.2.2.2.2.1
