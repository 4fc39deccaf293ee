theorem GM.np6 {M : mm} {n np hs : Nat} {q : Nat → Nat} (h : GM M n np hs q) : np ≤ 4 := h.1.2.2.2.1
theorem GM.n6 {M : mm} {n np hs : Nat} {q : Nat → Nat} (h : GM M n np hs q) : n ≤ 6 := h.1.2.1
/-- the class's and the reference's test of a player, of a link, are one -/
theorem GM.pl {M : mm} {n np hs : Nat} {q : Nat → Nat} (h : GM M n np hs q) (x : Int32) : (0 ≤ x ∧ x ≤ M.1 123 3 - 1) ↔ (0 ≤ x ∧ x ≤ M.1 2 3 - 1) := by rw [h.w3]
theorem GM.ln {M : mm} {n np hs : Nat} {q : Nat → Nat} (h : GM M n np hs q) (x : Int32) : (0 ≤ x ∧ x ≤ M.1 123 2 - 1) ↔ (0 ≤ x ∧ x ≤ M.1 2 2 - 1) := by rw [h.w2]
theorem GM.isP {M : mm} {n np hs : Nat} {q : Nat → Nat} (h : GM M n np hs q) {x : Int32} (hx : 0 ≤ x ∧ x ≤ M.1 2 3 - 1) : ∃ i, i < np ∧ x = nI i := in_k (by have := h.np6; omega) (by rw [← h.pp]; exact hx)
theorem GM.isL {M : mm} {n np hs : Nat} {q : Nat → Nat} (h : GM M n np hs q) {x : Int32} (hx : 0 ≤ x ∧ x ≤ M.1 2 2 - 1) : ∃ k, k < n ∧ x = nI k := in_k h.n6 (by rw [← h.nn]; exact hx)
theorem op_of (a b : Int32) : Op (fX10_of 0 a b) (fX11_of 122 a b) := by
  intro M h
  obtain ⟨n, np, hs, q, g⟩ := h.gm
  unfold fX10_of fX11_of fX10_of_17 fX11_of_20
  simp only [o_0, o_122, r_0_0, r_1_0, r_122_0, br8 brd_2, br9 brd_2, br10 brd_2, f10_isPlayer, f11_isPlayer, Option.bind_some, f10_within, f11_in, gx_bd_some, f10_bad, f11_bad', show (0 : Int64) = (0 : Int32).toInt64 from rfl, show (2 : Int64) = (2 : Int32).toInt64 from rfl, b_le]
  by_cases c : 0 ≤ a ∧ a ≤ M.1 2 3 - 1
  · rw [b2_t c, if_neg (by decide)]
    by_cases c2 : 0 ≤ b ∧ b ≤ 2
    · rw [b2_t c2, if_neg (by decide)]
      obtain ⟨i, hi, rfl⟩ := g.isP c
      obtain ⟨k, hk0, hk, rfl⟩ := in_n (a := 0) (b := 2) (by omega) c2 (by omega)
      have hp4 := g.np6
      have e : ((28 : Int32) + (4 : Int32) * nI k) + nI i = nI (28 + 4 * k + i) := by rw [show (28 : Int32) = nI 28 from rfl, show (4 : Int32) = nI 4 from rfl, pk_mul, nI_add, nI_add]
      simp only [e, ra (M := M) (show 28 + 4 * k + i < 852 by omega)]
      have e6 := g.2.1.2.2.2.2.2 i hi
      rw [VR0, VR0, VR0, VC_5 _ _ (by omega), VC_6 _ _ (by omega), VC_7 _ _ (by omega)] at e6
      rcases (show k = 0 ∨ k = 1 ∨ k = 2 by omega) with rfl | rfl | rfl
      · rw [if_pos (show nI 0 = 0 from rfl), ba5 brd_2 (by omega), Option.bind_some]
        refine ⟨_, M, M, rfl, ?_, h⟩
        rw [b2_t ((g.pl _).mpr c), if_neg (by decide), if_neg (by decide), ra (by omega), Option.bind_some, e6.1]
      · rw [if_neg (show ¬ nI 1 = 0 by decide), if_pos (show nI 1 = 1 from rfl), ba6 brd_2 (by omega), Option.bind_some]
        refine ⟨_, M, M, rfl, ?_, h⟩
        rw [b2_t ((g.pl _).mpr c), if_neg (by decide), if_neg (by decide), ra (by omega), Option.bind_some, e6.2.1]
      · rw [if_neg (show ¬ nI 2 = 0 by decide), if_neg (show ¬ nI 2 = 1 by decide), ba7 brd_2 (by omega), Option.bind_some]
        refine ⟨_, M, M, rfl, ?_, h⟩
        rw [b2_t ((g.pl _).mpr c), if_neg (by decide), if_neg (by decide), ra (by omega), Option.bind_some, e6.2.2]
    · rw [b2_f c2, if_pos rfl]
      refine ⟨_, badC M, badR (badC M), rfl, ?_, h.bad⟩
      have e : (badC M).1 123 = M.1 123 := by unfold badC; rw [sI_o (by omega)]
      rw [e, b2_t ((g.pl _).mpr c), if_neg (by decide), if_pos rfl]
  · rw [b2_f c, if_pos rfl]
    refine ⟨_, badC M, badR (badC M), rfl, ?_, h.bad⟩
    have e : (badC M).1 123 = M.1 123 := by unfold badC; rw [sI_o (by omega)]
    rw [e, b2_f (fun z => c ((g.pl _).mp z)), if_pos rfl]
theorem op_about (a b : Int32) : Op (fX10_about 0 a b) (fX11_about 122 a b) := by
  intro M h
  obtain ⟨n, np, hs, q, g⟩ := h.gm
  unfold fX10_about fX11_about fX10_about_17 fX11_about_20
  simp only [o_0, o_122, r_0_0, r_1_0, r_122_0, br4 brd_2, br5 brd_2, br6 brd_2, br7 brd_2, f10_isLink, f11_isLink, Option.bind_some, f10_within, f11_in, gx_bd_some, f10_bad, f11_bad', show (0 : Int64) = (0 : Int32).toInt64 from rfl, show (3 : Int64) = (3 : Int32).toInt64 from rfl, b_le]
  by_cases c : 0 ≤ a ∧ a ≤ M.1 2 2 - 1
  · rw [b2_t c, if_neg (by decide)]
    by_cases c2 : 0 ≤ b ∧ b ≤ 3
    · rw [b2_t c2, if_neg (by decide)]
      obtain ⟨i, hi, rfl⟩ := g.isL c
      obtain ⟨k, hk0, hk, rfl⟩ := in_n (a := 0) (b := 3) (by omega) c2 (by omega)
      have hp4 := g.n6
      have e : ((4 : Int32) + (6 : Int32) * nI k) + nI i = nI (4 + 6 * k + i) := by rw [show (4 : Int32) = nI 4 from rfl, show (6 : Int32) = nI 6 from rfl, pk_mul, nI_add, nI_add]
      simp only [e]
      have e6 := g.2.1.2.2.2.2.1 i hi
      rw [VR0, VR0, VR0, VR0, VC_1 _ _ (by omega), VC_2 _ _ (by omega), VC_3 _ _ (by omega), VC_4 _ _ (by omega)] at e6
      rcases (show k = 0 ∨ k = 1 ∨ k = 2 ∨ k = 3 by omega) with rfl | rfl | rfl | rfl
      · rw [if_pos (show nI 0 = 0 from rfl), ba1 brd_2 (by omega), Option.bind_some]
        refine ⟨_, M, M, rfl, ?_, h⟩
        rw [b2_t ((g.ln _).mpr c), if_neg (by decide), if_neg (by decide), ra (by omega), Option.bind_some, e6.1]
      · rw [if_neg (show ¬ nI 1 = 0 by decide), if_pos (show nI 1 = 1 from rfl), ba2 brd_2 (by omega), Option.bind_some]
        refine ⟨_, M, M, rfl, ?_, h⟩
        rw [b2_t ((g.ln _).mpr c), if_neg (by decide), if_neg (by decide), ra (by omega), Option.bind_some, e6.2.1]
      · rw [if_neg (show ¬ nI 2 = 0 by decide), if_neg (show ¬ nI 2 = 1 by decide), if_pos (show nI 2 = 2 from rfl), ba3 brd_2 (by omega), Option.bind_some]
        refine ⟨_, M, M, rfl, ?_, h⟩
        rw [b2_t ((g.ln _).mpr c), if_neg (by decide), if_neg (by decide), ra (by omega), Option.bind_some, e6.2.2.1]
      · rw [if_neg (show ¬ nI 3 = 0 by decide), if_neg (show ¬ nI 3 = 1 by decide), if_neg (show ¬ nI 3 = 2 by decide), ba4 brd_2 (by omega), Option.bind_some]
        refine ⟨_, M, M, rfl, ?_, h⟩
        rw [b2_t ((g.ln _).mpr c), if_neg (by decide), if_neg (by decide), ra (by omega), Option.bind_some, e6.2.2.2]
    · rw [b2_f c2, if_pos rfl]
      refine ⟨_, badC M, badR (badC M), rfl, ?_, h.bad⟩
      have e : (badC M).1 123 = M.1 123 := by unfold badC; rw [sI_o (by omega)]
      rw [e, b2_t ((g.ln _).mpr c), if_neg (by decide), if_pos rfl]
  · rw [b2_f c, if_pos rfl]
    refine ⟨_, badC M, badR (badC M), rfl, ?_, h.bad⟩
    have e : (badC M).1 123 = M.1 123 := by unfold badC; rw [sI_o (by omega)]
    rw [e, b2_f (fun z => c ((g.ln _).mp z)), if_pos rfl]
