/-! is, kinds: the reference's side -/
section KR
variable {M : mm} {n np hs m : Nat} {q : Nat → Nat}
theorem r_leads (g : GM M n np hs q) {l : Nat} (hl : l < n) (kd u r : Int32) : fX11_leads 122 kd (nI l) u r (lay M) = some (lB kd (M.1 2 0) (M.1 4 l) (M.1 5 l) u r, lay M) := by
  have h6 := g.n6
  have e := g.2.1.2.2.2.2.1 l hl
  rw [VC_2 _ _ (by omega), VC_3 _ _ (by omega), VR0, VR0, VR0] at e
  unfold fX11_leads
  rw [o_122, Option.bind_some, r_122_0, Option.bind_some, show (0 : Int32) = nI 0 from rfl, ra (by omega), Option.bind_some, Option.bind_some, nIl', ra (by omega), Option.bind_some, Option.bind_some, nIl', ra (by omega), Option.bind_some, f11_leadsBy, gx_bd_some, g.w0, ← e.2.1, ← e.2.2.1]
theorem r_is_14 (g : GM M n np hs q) (w40 : M.1 123 40 = nI m) (h6 : m ≤ 6) (hw : ∀ e, e < m → M.1 21 e = M.1 123 (40 + 1 + 4 * e) ∧ M.1 22 e = M.1 123 (40 + 2 + 4 * e) ∧ M.1 23 e = M.1 123 (40 + 3 + 4 * e) ∧ M.1 24 e = M.1 123 (40 + 4 + 4 * e)) {l k : Nat} (hl : l < n) (k5 : Nat → Int32 → Int32 → Int32 → gx_H → Option (Int32 × gx_H)) : ∀ (t e F : Nat) (v : Int32), e + t = m → t < F → fX11_isOf_14 k5 F 122 (nI l) v (nI k) (nI e) (lay M) = k5 122 (nI l) (if allB (tN M l k) t e = true then v else v &&& (((1 : Int32) <<< (nI k &&& 31)) ^^^ (-1 : Int32))) (nI (k + 1)) (lay M)
  | t, e, 0, v, _, hF => by omega
  | 0, e, F + 1, v, he, _ => by
    show bX11_isOf_14 k5 (fX11_isOf_14 k5 F) 122 (nI l) v (nI k) (nI e) (lay M) = _
    unfold bX11_isOf_14
    rw [r_122_0, Option.bind_some, show (40 : Int32) = nI 40 from rfl, ra (by omega), Option.bind_some, w40, if_pos (nI_le (by omega) (by omega)), nI_1]
    rfl
  | t + 1, e, F + 1, v, he, hF => by
    show bX11_isOf_14 k5 (fX11_isOf_14 k5 F) 122 (nI l) v (nI k) (nI e) (lay M) = _
    obtain ⟨w1, w2, w3, w4⟩ := hw e (by omega)
    have IH := fun v => r_is_14 g w40 h6 hw hl (k := k) k5 t (e + 1) F v (by omega) (by omega)
    have ei : (41 : Int32) + (4 : Int32) * nI e = nI (40 + 1 + 4 * e) := by rw [show (41 : Int32) = nI 41 from rfl, show (4 : Int32) = nI 4 from rfl, pk_mul, nI_add]
    unfold bX11_isOf_14 fX11_isOf_90
    rw [r_122_0, Option.bind_some, show (40 : Int32) = nI 40 from rfl, ra (by omega), Option.bind_some, w40, if_neg (nI_ge (by omega) (by omega)), Option.bind_some, ei, ra (by omega), Option.bind_some, ← w1]
    unfold allB
    by_cases c1 : M.1 21 e = nI l
    · rw [if_pos c1, Option.bind_some, nIl, ra (by omega), Option.bind_some, Option.bind_some, nIl, ra (by omega), Option.bind_some, show 40 + 1 + 4 * e + 1 = 40 + 2 + 4 * e by omega, show 40 + 1 + 4 * e + 2 = 40 + 3 + 4 * e by omega, ← w2, ← w3, r_leads g hl, gx_bd_some, r_122_0, Option.bind_some, nIl, ra (by omega), Option.bind_some, show 40 + 1 + 4 * e + 3 = 40 + 4 + 4 * e by omega, ← w4, nI_1]
      by_cases c2 : M.1 24 e = lB (nI k) (M.1 2 0) (M.1 4 l) (M.1 5 l) (M.1 22 e) (M.1 23 e)
      · rw [if_pos c2.symm, show tN M l k e = true from decide_eq_true (fun _ => c2), Bool.true_and]
        exact IH v
      · rw [if_neg (fun z => c2 z.symm), show tN M l k e = false from decide_eq_false (fun z => c2 (z c1)), Bool.false_and, IH, clr_idem, ite_self, if_neg (by decide)]
    · rw [if_neg c1, show tN M l k e = true from decide_eq_true (fun z => absurd z c1), Bool.true_and, nI_1]
      exact IH v
theorem r_isOf_l (g : GM M n np hs q) (w40 : M.1 123 40 = nI m) (h6 : m ≤ 6) (hw : ∀ e, e < m → M.1 21 e = M.1 123 (40 + 1 + 4 * e) ∧ M.1 22 e = M.1 123 (40 + 2 + 4 * e) ∧ M.1 23 e = M.1 123 (40 + 3 + 4 * e) ∧ M.1 24 e = M.1 123 (40 + 4 + 4 * e)) {l : Nat} (hl : l < n) : ∀ (t k F : Nat) (v : Int32), k + t = 6 → t < F → fX11_isOf_5 F 122 (nI l) v (nI k) (lay M) = some (clF (fun k => allB (tN M l k) m 0) t k v, lay M)
  | t, k, 0, v, _, hF => by omega
  | 0, k, F + 1, v, hk, _ => by
    show bX11_isOf_5 (fX11_isOf_5 F) 122 (nI l) v (nI k) (lay M) = _
    unfold bX11_isOf_5
    rw [if_pos (show (6 : Int32) ≤ nI k from nI_le (a := 6) (by omega) (by omega))]
    rfl
  | t + 1, k, F + 1, v, hk, hF => by
    show bX11_isOf_5 (fX11_isOf_5 F) 122 (nI l) v (nI k) (lay M) = _
    unfold bX11_isOf_5
    have e : fX11_isOf_14 (fX11_isOf_5 F) gx_N 122 (nI l) v (nI k) 0 (lay M) = _ := r_is_14 g w40 h6 hw hl (k := k) (fX11_isOf_5 F) m 0 gx_N v (by omega) (by unfold gx_N; omega)
    rw [if_neg (show ¬ (6 : Int32) ≤ nI k from nI_ge (b := 6) (by omega) (by omega)), e]
    unfold clF
    exact r_isOf_l g w40 h6 hw hl t (k + 1) F _ (by omega) (by omega)
theorem r_what_14 (g : GM M n np hs q) (w65 : M.1 123 65 = nI m) (h6 : m ≤ 6) (hw : ∀ e, e < m → M.1 26 e = M.1 123 (65 + 1 + 4 * e) ∧ M.1 27 e = M.1 123 (65 + 2 + 4 * e) ∧ M.1 28 e = M.1 123 (65 + 3 + 4 * e) ∧ M.1 29 e = M.1 123 (65 + 4 + 4 * e)) {l k : Nat} (k5 : Nat → Int32 → Int32 → Int32 → gx_H → Option (Int32 × gx_H)) : ∀ (t e F : Nat) (v : Int32), e + t = m → t < F → fX11_whatOf_14 k5 F 122 (nI l) v (nI k) (nI e) (lay M) = k5 122 (nI l) (if allB (tM M l k) t e = true then v else v &&& (((1 : Int32) <<< (nI k &&& 31)) ^^^ (-1 : Int32))) (nI (k + 1)) (lay M)
  | t, e, 0, v, _, hF => by omega
  | 0, e, F + 1, v, he, _ => by
    show bX11_whatOf_14 k5 (fX11_whatOf_14 k5 F) 122 (nI l) v (nI k) (nI e) (lay M) = _
    unfold bX11_whatOf_14
    rw [r_122_0, Option.bind_some, show (65 : Int32) = nI 65 from rfl, ra (by omega), Option.bind_some, w65, if_pos (nI_le (by omega) (by omega)), nI_1]
    rfl
  | t + 1, e, F + 1, v, he, hF => by
    show bX11_whatOf_14 k5 (fX11_whatOf_14 k5 F) 122 (nI l) v (nI k) (nI e) (lay M) = _
    obtain ⟨w1, w2, w3, w4⟩ := hw e (by omega)
    have IH := fun v => r_what_14 g w65 h6 hw (l := l) (k := k) k5 t (e + 1) F v (by omega) (by omega)
    have ei : (66 : Int32) + (4 : Int32) * nI e = nI (65 + 1 + 4 * e) := by rw [show (66 : Int32) = nI 66 from rfl, show (4 : Int32) = nI 4 from rfl, pk_mul, nI_add]
    unfold bX11_whatOf_14 fX11_whatOf_94
    rw [r_122_0, Option.bind_some, show (65 : Int32) = nI 65 from rfl, ra (by omega), Option.bind_some, w65, if_neg (nI_ge (by omega) (by omega)), Option.bind_some, ei, ra (by omega), Option.bind_some, ← w1]
    unfold allB
    by_cases c1 : M.1 26 e = nI l
    · rw [if_pos c1, Option.bind_some, show (0 : Int32) = nI 0 from rfl, ra (by omega), Option.bind_some, Option.bind_some, nIl, ra (by omega), Option.bind_some, Option.bind_some, nIl, ra (by omega), Option.bind_some, show 65 + 1 + 4 * e + 1 = 65 + 2 + 4 * e by omega, show 65 + 1 + 4 * e + 2 = 65 + 3 + 4 * e by omega, ← w2, ← w3, f11_goesBy, gx_bd_some, r_122_0, Option.bind_some, nIl, ra (by omega), Option.bind_some, show 65 + 1 + 4 * e + 3 = 65 + 4 + 4 * e by omega, ← w4, nI_1, g.w0]
      by_cases c2 : M.1 29 e = gB (nI k) (M.1 2 0) (M.1 27 e) (M.1 28 e)
      · rw [if_pos c2.symm, show tM M l k e = true from decide_eq_true (fun _ => c2), Bool.true_and]
        exact IH v
      · rw [if_neg (fun z => c2 z.symm), show tM M l k e = false from decide_eq_false (fun z => c2 (z c1)), Bool.false_and, IH, clr_idem, ite_self, if_neg (by decide)]
    · rw [if_neg c1, show tM M l k e = true from decide_eq_true (fun z => absurd z c1), Bool.true_and, nI_1]
      exact IH v
theorem r_whatOf_l (g : GM M n np hs q) (w65 : M.1 123 65 = nI m) (h6 : m ≤ 6) (hw : ∀ e, e < m → M.1 26 e = M.1 123 (65 + 1 + 4 * e) ∧ M.1 27 e = M.1 123 (65 + 2 + 4 * e) ∧ M.1 28 e = M.1 123 (65 + 3 + 4 * e) ∧ M.1 29 e = M.1 123 (65 + 4 + 4 * e)) {l : Nat} : ∀ (t k F : Nat) (v : Int32), k + t = 6 → t < F → fX11_whatOf_5 F 122 (nI l) v (nI k) (lay M) = some (clF (fun k => allB (tM M l k) m 0) t k v, lay M)
  | t, k, 0, v, _, hF => by omega
  | 0, k, F + 1, v, hk, _ => by
    show bX11_whatOf_5 (fX11_whatOf_5 F) 122 (nI l) v (nI k) (lay M) = _
    unfold bX11_whatOf_5
    rw [if_pos (show (6 : Int32) ≤ nI k from nI_le (a := 6) (by omega) (by omega))]
    rfl
  | t + 1, k, F + 1, v, hk, hF => by
    show bX11_whatOf_5 (fX11_whatOf_5 F) 122 (nI l) v (nI k) (lay M) = _
    unfold bX11_whatOf_5
    have e : fX11_whatOf_14 (fX11_whatOf_5 F) gx_N 122 (nI l) v (nI k) 0 (lay M) = _ := r_what_14 g w65 h6 hw (l := l) (k := k) (fX11_whatOf_5 F) m 0 gx_N v (by omega) (by unfold gx_N; omega)
    rw [if_neg (show ¬ (6 : Int32) ≤ nI k from nI_ge (b := 6) (by omega) (by omega)), e]
    unfold clF
    exact r_whatOf_l g w65 h6 hw t (k + 1) F _ (by omega) (by omega)
end KR
/-- the kinds of a link, of a player: one number on both sides -/
theorem kindsL {M : mm} (h : Inv M) {n np hs : Nat} {q : Nat → Nat} (g : GM M n np hs q) {l : Nat} (hl : l < n) : ∃ f : Nat → Bool, fX2_linkKinds 120 2 20 (nI l) (lay M) = some (clF f 6 0 63, lay M) ∧ fX11_isOf 122 (nI l) (lay M) = some (clF f 6 0 63, lay M) := by
  obtain ⟨m, m1, m2, m3, m4, m5⟩ := g.2.2.1
  simp only [VR0] at m3 m4
  refine ⟨fun k => allB (tN M l k) m 0, ?_, ?_⟩
  · unfold fX2_linkKinds
    rw [o_120, Option.bind_some, ← or_cl]
    exact c_linkKinds_l g m2 m1 m5 hl 6 0 gx_N 0 (by omega) (by unfold gx_N; omega)
  · unfold fX11_isOf
    rw [o_122, Option.bind_some]
    exact r_isOf_l g m3 m1 m4 hl 6 0 gx_N 63 (by omega) (by unfold gx_N; omega)
theorem kindsP {M : mm} (h : Inv M) {n np hs : Nat} {q : Nat → Nat} (g : GM M n np hs q) {l : Nat} : ∃ f : Nat → Bool, fX2_playerKinds 120 2 25 (nI l) (lay M) = some (clF f 6 0 63, lay M) ∧ fX11_whatOf 122 (nI l) (lay M) = some (clF f 6 0 63, lay M) := by
  obtain ⟨m, m1, m2, m3, m4, m5⟩ := g.2.2.2.1
  simp only [VR0] at m3 m4
  refine ⟨fun k => allB (tM M l k) m 0, ?_, ?_⟩
  · unfold fX2_playerKinds
    rw [o_120, Option.bind_some, ← or_cl]
    exact c_playerKinds_l g m2 m1 6 0 gx_N 0 (by omega) (by unfold gx_N; omega)
  · unfold fX11_whatOf
    rw [o_122, Option.bind_some]
    exact r_whatOf_l g m3 m1 m4 6 0 gx_N 63 (by omega) (by unfold gx_N; omega)
theorem op_is (a : Int32) : Op (fX10_is 0 a) (fX11_is 122 a) := by
  intro M h
  obtain ⟨n, np, hs, q, g⟩ := h.gm
  unfold fX10_is fX11_is fX11_is_22
  simp only [o_0, o_122, r_0_0, r_0_5, r_1_0, r_1_2, f10_isLink, f11_isLink, Option.bind_some, gx_bd_some, f10_bad, f11_bad']
  by_cases c1 : 0 ≤ a ∧ a ≤ M.1 2 2 - 1
  case neg =>
    rw [b2_f c1, if_pos rfl]
    refine ⟨_, badC M, badR (badC M), rfl, ?_, h.bad⟩
    rw [show (badC M).1 123 = M.1 123 from by unfold badC; rw [sI_o (by omega)], b2_f (fun z => c1 ((g.ln _).mp z)), if_pos rfl]
  rw [b2_t c1, if_neg (by decide)]
  obtain ⟨l, hl, rfl⟩ := g.isL c1
  obtain ⟨f, e1, e2⟩ := kindsL h g hl
  refine ⟨clF f 6 0 63, M, M, ?_, ?_, h⟩
  · rw [e1, gx_bd_some]
  · rw [b2_t ((g.ln _).mpr c1), if_neg (by decide), e2, gx_bd_some]
theorem op_kinds (a : Int32) : Op (fX10_kinds 0 a) (fX11_kinds 122 a) := by
  intro M h
  obtain ⟨n, np, hs, q, g⟩ := h.gm
  unfold fX10_kinds fX11_kinds fX11_kinds_22
  simp only [o_0, o_122, r_0_0, r_0_5, r_1_0, r_1_3, f10_isPlayer, f11_isPlayer, Option.bind_some, gx_bd_some, f10_bad, f11_bad']
  by_cases c1 : 0 ≤ a ∧ a ≤ M.1 2 3 - 1
  case neg =>
    rw [b2_f c1, if_pos rfl]
    refine ⟨_, badC M, badR (badC M), rfl, ?_, h.bad⟩
    rw [show (badC M).1 123 = M.1 123 from by unfold badC; rw [sI_o (by omega)], b2_f (fun z => c1 ((g.pl _).mp z)), if_pos rfl]
  rw [b2_t c1, if_neg (by decide)]
  obtain ⟨l, hl, rfl⟩ := g.isP c1
  obtain ⟨f, e1, e2⟩ := kindsP h g (l := l)
  refine ⟨clF f 6 0 63, M, M, ?_, ?_, h⟩
  · rw [e1, gx_bd_some]
  · rw [b2_t ((g.pl _).mpr c1), if_neg (by decide), e2, gx_bd_some]
