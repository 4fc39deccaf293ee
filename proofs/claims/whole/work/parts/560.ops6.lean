theorem op_note (a b c d : Int32) : Op (fX10_note 0 a b c d) (fX11_note 122 a b c d) := by
  intro M h
  obtain ⟨n, np, hs, q, g⟩ := h.gm
  obtain ⟨m, m1, m2, m3, m4⟩ := g.2.2.1
  rw [VR0] at m3
  have m2' : M.1 20 0 = nI m := m2
  unfold fX10_note fX11_note fX10_note_39 fX11_note_45
  simp only [o_0, o_122, r_0_0, r_1_2, r_122_0, i_20_0, f10_isLink, f11_isLink, Option.bind_some, f10_within, f11_in, gx_bd_some, f10_bad, f11_bad', f10_full, f11_full', show (0 : Int64) = (0 : Int32).toInt64 from rfl, show (1 : Int64) = (1 : Int32).toInt64 from rfl, show (6 : Int64) = (6 : Int32).toInt64 from rfl, show (9 : Int64) = (9 : Int32).toInt64 from rfl, show (40 : Int64) = (40 : Int32).toInt64 from rfl, b_le]
  have eB : (badC M).1 123 = M.1 123 := by unfold badC; rw [sI_o (by omega)]
  have eF : (fullC M).1 123 = M.1 123 := by unfold fullC; rw [sI_o (by omega)]
  by_cases c1 : 0 ≤ a ∧ a ≤ M.1 2 2 - 1
  case neg =>
    rw [b2_f c1, if_pos rfl]
    refine ⟨_, badC M, badR (badC M), rfl, ?_, h.bad⟩
    rw [eB, b2_f (fun z => c1 ((g.ln _).mp z)), if_pos rfl]
  rw [b2_t c1, if_neg (by decide)]
  have c1' := (g.ln _).mpr c1
  by_cases c2 : 0 ≤ b ∧ b ≤ 9
  case neg =>
    rw [b2_f c2, if_pos rfl]
    refine ⟨_, badC M, badR (badC M), rfl, ?_, h.bad⟩
    rw [eB, b2_t c1', if_neg (by decide), if_pos rfl]
  rw [b2_t c2, if_neg (by decide)]
  by_cases c3 : 1 ≤ c ∧ c ≤ 6
  case neg =>
    rw [b2_f c3, if_pos rfl]
    refine ⟨_, badC M, badR (badC M), rfl, ?_, h.bad⟩
    rw [eB, b2_t c1', if_neg (by decide), if_neg (by decide), if_pos rfl]
  rw [b2_t c3, if_neg (by decide)]
  by_cases c4 : 0 ≤ d ∧ d ≤ 40
  case neg =>
    rw [b2_f c4, if_pos rfl]
    refine ⟨_, badC M, badR (badC M), rfl, ?_, h.bad⟩
    rw [eB, b2_t c1', if_neg (by decide), if_neg (by decide), if_neg (by decide), if_pos rfl]
  rw [b2_t c4, if_neg (by decide), m2']
  by_cases c5 : m = 6
  · rw [if_neg (by rw [c5]; decide)]
    refine ⟨_, fullC M, fullR (fullC M), rfl, ?_, h.full⟩
    rw [eF, b2_t c1', if_neg (by decide), if_neg (by decide), if_neg (by decide), if_neg (by decide), show (40 : Int32) = nI 40 from rfl, ra (by omega), Option.bind_some, eF, m3, if_pos (by rw [c5]; rfl)]
  have h6 : m < 6 := by omega
  rw [if_pos (show nI m < (6 : Int32) from nI_lt (b := 6) h6 (by omega)), c_add (by decide) (by decide) (by decide) (by decide) (by decide) m2' h6, gx_bd_some]
  refine ⟨_, _, sI (sI (sI (sI (sI (sI (sI (sI (sI (sI M (20 + 1) m a) (20 + 2) m b) (20 + 3) m c) (20 + 4) m d) 20 0 (nI (m + 1))) 123 (40 + 1 + 4 * m) a) 123 (40 + 1 + 4 * m + 1) b) 123 (40 + 1 + 4 * m + 2) c) 123 (40 + 1 + 4 * m + 3) d) 123 40 (nI (m + 1)), rfl, ?_, ?_⟩
  · have ew : (sI (sI (sI (sI (sI M (20 + 1) m a) (20 + 2) m b) (20 + 3) m c) (20 + 4) m d) 20 0 (nI (m + 1))).1 123 = M.1 123 := by
      rw [sI_o (by omega), sI_o (by omega), sI_o (by omega), sI_o (by omega), sI_o (by omega)]
    generalize sI (sI (sI (sI (sI M (20 + 1) m a) (20 + 2) m b) (20 + 3) m c) (20 + 4) m d) 20 0 (nI (m + 1)) = M1 at ew ⊢
    have ei : (41 : Int32) + (4 : Int32) * nI m = nI (40 + 1 + 4 * m) := by rw [show (41 : Int32) = nI 41 from rfl, show (4 : Int32) = nI 4 from rfl, pk_mul, nI_add]
    rw [ew, b2_t c1', if_neg (by decide), if_neg (by decide), if_neg (by decide), if_neg (by decide), show (40 : Int32) = nI 40 from rfl, ra (by omega), Option.bind_some, ew, m3, if_neg (show ¬ nI m = (6 : Int32) from fun z => c5 ((nI_eq (b := 6) (by omega) (by omega)).mp z)), Option.bind_some, ei, r_keeps (by omega), gx_bd_some]
    simp only [r_122_0, Option.bind_some]
    rw [ra (by omega), Option.bind_some, sI_n (by omega), sI_n (by omega), sI_n (by omega), sI_n (by omega), ew, m3, nI_1, rs (by omega), Option.bind_some]
    simp only [r_122_0, Option.bind_some]
    rw [ra (by omega), Option.bind_some, sI_s]
  · have hadd := seenR.add (M := M) (s := 19) (p := 40) (by omega) (by omega) g.2.2.1 m2 h6 a b c d (by obtain ⟨t, t1, t2, rfl⟩ := in_n (a := 1) (b := 6) (by omega) c3 (by omega); exact nI_bn (by omega) (by omega) (by omega)) (M2 := sI (sI (sI (sI (sI (sI (sI (sI (sI (sI M (20 + 1) m a) (20 + 2) m b) (20 + 3) m c) (20 + 4) m d) 20 0 (nI (m + 1))) 123 (40 + 1 + 4 * m) a) 123 (40 + 1 + 4 * m + 1) b) 123 (40 + 1 + 4 * m + 2) c) 123 (40 + 1 + 4 * m + 3) d) 123 40 (nI (m + 1))) rfl
    have hoth := g.2.2.2.1.eq (G' := fun a' => (sI (sI (sI (sI (sI (sI (sI (sI (sI (sI M (20 + 1) m a) (20 + 2) m b) (20 + 3) m c) (20 + 4) m d) 20 0 (nI (m + 1))) 123 (40 + 1 + 4 * m) a) 123 (40 + 1 + 4 * m + 1) b) 123 (40 + 1 + 4 * m + 2) c) 123 (40 + 1 + 4 * m + 3) d) 123 40 (nI (m + 1))).1 (1 + a')) (w' := VR (sI (sI (sI (sI (sI (sI (sI (sI (sI (sI M (20 + 1) m a) (20 + 2) m b) (20 + 3) m c) (20 + 4) m d) 20 0 (nI (m + 1))) 123 (40 + 1 + 4 * m) a) 123 (40 + 1 + 4 * m + 1) b) 123 (40 + 1 + 4 * m + 2) c) 123 (40 + 1 + 4 * m + 3) d) 123 40 (nI (m + 1))).1 0) (fun a h1 h2 => by rw [sI_o (by omega), sI_o (by omega), sI_o (by omega), sI_o (by omega), sI_o (by omega), sI_o (by omega), sI_o (by omega), sI_o (by omega), sI_o (by omega), sI_o (by omega)]) (fun j h1 h2 => by rw [VR0, VR0, sI_n (by omega), sI_n (by omega), sI_n (by omega), sI_n (by omega), sI_n (by omega), sI_o (by omega), sI_o (by omega), sI_o (by omega), sI_o (by omega), sI_o (by omega)])
    refine h.seen hadd hoth rfl (fun a h1 h2 => by rw [sI_o h2, sI_o h2, sI_o h2, sI_o h2, sI_o h2, sI_o (by omega), sI_o (by omega), sI_o (by omega), sI_o (by omega), sI_o (by omega)]) (fun j hj => by rw [sI_n (by omega), sI_n (by omega), sI_n (by omega), sI_n (by omega), sI_n (by omega), sI_o (by omega), sI_o (by omega), sI_o (by omega), sI_o (by omega), sI_o (by omega)])
theorem op_mark (a b c d : Int32) : Op (fX10_mark 0 a b c d) (fX11_mark 122 a b c d) := by
  intro M h
  obtain ⟨n, np, hs, q, g⟩ := h.gm
  obtain ⟨m, m1, m2, m3, m4⟩ := g.2.2.2.1
  rw [VR0] at m3
  have m2' : M.1 25 0 = nI m := m2
  unfold fX10_mark fX11_mark fX10_mark_39 fX11_mark_45
  simp only [o_0, o_122, r_0_0, r_1_3, r_122_0, i_25_0, f10_isPlayer, f11_isPlayer, Option.bind_some, f10_within, f11_in, gx_bd_some, f10_bad, f11_bad', f10_full, f11_full', show (0 : Int64) = (0 : Int32).toInt64 from rfl, show (1 : Int64) = (1 : Int32).toInt64 from rfl, show (6 : Int64) = (6 : Int32).toInt64 from rfl, show (9 : Int64) = (9 : Int32).toInt64 from rfl, show (40 : Int64) = (40 : Int32).toInt64 from rfl, b_le]
  have eB : (badC M).1 123 = M.1 123 := by unfold badC; rw [sI_o (by omega)]
  have eF : (fullC M).1 123 = M.1 123 := by unfold fullC; rw [sI_o (by omega)]
  by_cases c1 : 0 ≤ a ∧ a ≤ M.1 2 3 - 1
  case neg =>
    rw [b2_f c1, if_pos rfl]
    refine ⟨_, badC M, badR (badC M), rfl, ?_, h.bad⟩
    rw [eB, b2_f (fun z => c1 ((g.pl _).mp z)), if_pos rfl]
  rw [b2_t c1, if_neg (by decide)]
  have c1' := (g.pl _).mpr c1
  by_cases c2 : 0 ≤ b ∧ b ≤ 40
  case neg =>
    rw [b2_f c2, if_pos rfl]
    refine ⟨_, badC M, badR (badC M), rfl, ?_, h.bad⟩
    rw [eB, b2_t c1', if_neg (by decide), if_pos rfl]
  rw [b2_t c2, if_neg (by decide)]
  by_cases c3 : 1 ≤ c ∧ c ≤ 6
  case neg =>
    rw [b2_f c3, if_pos rfl]
    refine ⟨_, badC M, badR (badC M), rfl, ?_, h.bad⟩
    rw [eB, b2_t c1', if_neg (by decide), if_neg (by decide), if_pos rfl]
  rw [b2_t c3, if_neg (by decide)]
  by_cases c4 : 0 ≤ d ∧ d ≤ 40
  case neg =>
    rw [b2_f c4, if_pos rfl]
    refine ⟨_, badC M, badR (badC M), rfl, ?_, h.bad⟩
    rw [eB, b2_t c1', if_neg (by decide), if_neg (by decide), if_neg (by decide), if_pos rfl]
  rw [b2_t c4, if_neg (by decide), m2']
  by_cases c5 : m = 6
  · rw [if_neg (by rw [c5]; decide)]
    refine ⟨_, fullC M, fullR (fullC M), rfl, ?_, h.full⟩
    rw [eF, b2_t c1', if_neg (by decide), if_neg (by decide), if_neg (by decide), if_neg (by decide), show (65 : Int32) = nI 65 from rfl, ra (by omega), Option.bind_some, eF, m3, if_pos (by rw [c5]; rfl)]
  have h6 : m < 6 := by omega
  rw [if_pos (show nI m < (6 : Int32) from nI_lt (b := 6) h6 (by omega)), c_add (by decide) (by decide) (by decide) (by decide) (by decide) m2' h6, gx_bd_some]
  refine ⟨_, _, sI (sI (sI (sI (sI (sI (sI (sI (sI (sI M (25 + 1) m a) (25 + 2) m b) (25 + 3) m c) (25 + 4) m d) 25 0 (nI (m + 1))) 123 (65 + 1 + 4 * m) a) 123 (65 + 1 + 4 * m + 1) b) 123 (65 + 1 + 4 * m + 2) c) 123 (65 + 1 + 4 * m + 3) d) 123 65 (nI (m + 1)), rfl, ?_, ?_⟩
  · have ew : (sI (sI (sI (sI (sI M (25 + 1) m a) (25 + 2) m b) (25 + 3) m c) (25 + 4) m d) 25 0 (nI (m + 1))).1 123 = M.1 123 := by
      rw [sI_o (by omega), sI_o (by omega), sI_o (by omega), sI_o (by omega), sI_o (by omega)]
    generalize sI (sI (sI (sI (sI M (25 + 1) m a) (25 + 2) m b) (25 + 3) m c) (25 + 4) m d) 25 0 (nI (m + 1)) = M1 at ew ⊢
    have ei : (66 : Int32) + (4 : Int32) * nI m = nI (65 + 1 + 4 * m) := by rw [show (66 : Int32) = nI 66 from rfl, show (4 : Int32) = nI 4 from rfl, pk_mul, nI_add]
    rw [ew, b2_t c1', if_neg (by decide), if_neg (by decide), if_neg (by decide), if_neg (by decide), show (65 : Int32) = nI 65 from rfl, ra (by omega), Option.bind_some, ew, m3, if_neg (show ¬ nI m = (6 : Int32) from fun z => c5 ((nI_eq (b := 6) (by omega) (by omega)).mp z)), Option.bind_some, ei, r_keeps (by omega), gx_bd_some]
    simp only [r_122_0, Option.bind_some]
    rw [ra (by omega), Option.bind_some, sI_n (by omega), sI_n (by omega), sI_n (by omega), sI_n (by omega), ew, m3, nI_1, rs (by omega), Option.bind_some]
    simp only [r_122_0, Option.bind_some]
    rw [ra (by omega), Option.bind_some, sI_s]
  · have hadd := seenR.add (M := M) (s := 24) (p := 65) (by omega) (by omega) g.2.2.2.1 m2 h6 a b c d (by obtain ⟨t, t1, t2, rfl⟩ := in_n (a := 1) (b := 6) (by omega) c3 (by omega); exact nI_bn (by omega) (by omega) (by omega)) (M2 := sI (sI (sI (sI (sI (sI (sI (sI (sI (sI M (25 + 1) m a) (25 + 2) m b) (25 + 3) m c) (25 + 4) m d) 25 0 (nI (m + 1))) 123 (65 + 1 + 4 * m) a) 123 (65 + 1 + 4 * m + 1) b) 123 (65 + 1 + 4 * m + 2) c) 123 (65 + 1 + 4 * m + 3) d) 123 65 (nI (m + 1))) rfl
    have hoth := g.2.2.1.eq (G' := fun a' => (sI (sI (sI (sI (sI (sI (sI (sI (sI (sI M (25 + 1) m a) (25 + 2) m b) (25 + 3) m c) (25 + 4) m d) 25 0 (nI (m + 1))) 123 (65 + 1 + 4 * m) a) 123 (65 + 1 + 4 * m + 1) b) 123 (65 + 1 + 4 * m + 2) c) 123 (65 + 1 + 4 * m + 3) d) 123 65 (nI (m + 1))).1 (1 + a')) (w' := VR (sI (sI (sI (sI (sI (sI (sI (sI (sI (sI M (25 + 1) m a) (25 + 2) m b) (25 + 3) m c) (25 + 4) m d) 25 0 (nI (m + 1))) 123 (65 + 1 + 4 * m) a) 123 (65 + 1 + 4 * m + 1) b) 123 (65 + 1 + 4 * m + 2) c) 123 (65 + 1 + 4 * m + 3) d) 123 65 (nI (m + 1))).1 0) (fun a h1 h2 => by rw [sI_o (by omega), sI_o (by omega), sI_o (by omega), sI_o (by omega), sI_o (by omega), sI_o (by omega), sI_o (by omega), sI_o (by omega), sI_o (by omega), sI_o (by omega)]) (fun j h1 h2 => by rw [VR0, VR0, sI_n (by omega), sI_n (by omega), sI_n (by omega), sI_n (by omega), sI_n (by omega), sI_o (by omega), sI_o (by omega), sI_o (by omega), sI_o (by omega), sI_o (by omega)])
    refine h.seen hoth hadd rfl (fun a h1 h2 => by rw [sI_o h2, sI_o h2, sI_o h2, sI_o h2, sI_o h2, sI_o (by omega), sI_o (by omega), sI_o (by omega), sI_o (by omega), sI_o (by omega)]) (fun j hj => by rw [sI_n (by omega), sI_n (by omega), sI_n (by omega), sI_n (by omega), sI_n (by omega), sI_o (by omega), sI_o (by omega), sI_o (by omega), sI_o (by omega), sI_o (by omega)])
