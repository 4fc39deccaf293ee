theorem c_addLink {M : mm} {b n : Nat} (hb : brd b) (hn : M.1 b 2 = nI n) (h6 : n < 6) (kd x y : Int32) : ∃ M', fX0_addLink b kd x y (lay M) = some (nI n, lay M') ∧ VC M'.1 b = upd (upd (upd (upd (upd (VC M.1 b) (4 + n) kd) (10 + n) x) (16 + n) y) (22 + n) 0) 2 (nI (n + 1)) ∧ fr (inB b) M M' := by
  unfold fX0_addLink
  simp only [bo hb, bi2 hb, hn, Option.bind_some]
  rw [if_pos (show nI n < (6 : Int32) from nI_lt (b := 6) h6 (by omega))]
  simp only [br4 hb, br5 hb, br6 hb, br7 hb, bs1 hb h6, bs2 hb h6, bs3 hb h6, bs4 hb h6, bi2 hb, bp2 hb, Option.bind_some]
  rw [sI_o (show b ≠ b + 4 by omega), sI_o (show b ≠ b + 3 by omega), sI_o (show b ≠ b + 2 by omega), sI_o (show b ≠ b + 1 by omega), hn, nI_1]
  refine ⟨_, rfl, ?_, ((((fr.rf.put ⟨by omega, by omega⟩).put ⟨by omega, by omega⟩).put ⟨by omega, by omega⟩).put ⟨by omega, by omega⟩).put ⟨by omega, by omega⟩⟩
  rw [show (sI (sI (sI (sI (sI M (b + 1) n kd) (b + 2) n x) (b + 3) n y) (b + 4) n 0) b 2 (nI (n + 1))).1 = up2 (up2 (up2 (up2 (up2 M.1 (b + 1) n kd) (b + 2) n x) (b + 3) n y) (b + 4) n 0) b 2 (nI (n + 1)) from rfl, VC_u0 _ _ _ (by omega), VC_u4 _ _ _ h6, VC_u3 _ _ _ h6, VC_u2 _ _ _ h6, VC_u1 _ _ _ h6]
theorem r_addsLink {M : mm} {r n : Nat} (hr : r ≤ 812) (hn : VR M.1 r 2 = nI n) (h6 : n < 6) (kd x y : Int32) : ∃ M', fX11_addsLink 122 (nI r) kd x y (lay M) = some ((), lay M') ∧ VR M'.1 r = upd (upd (upd (upd (upd (VR M.1 r) (4 + n) kd) (10 + n) x) (16 + n) y) (22 + n) 0) 2 (nI (n + 1)) ∧ frW r (r + 40) M M' := by
  have hn' : M.1 123 (r + 2) = nI n := hn
  unfold fX11_addsLink
  simp only [o_122, r_122_0, Option.bind_some, nIl, ra (show r + 2 < 852 by omega), hn', nI_add, rs (show r + 4 + n < 852 by omega), rs (show r + 10 + n < 852 by omega), rs (show r + 16 + n < 852 by omega), rs (show r + 22 + n < 852 by omega), rs (show r + 2 < 852 by omega)]
  rw [sI_n (show r + 2 ≠ r + 22 + n by omega), sI_n (show r + 2 ≠ r + 16 + n by omega), sI_n (show r + 2 ≠ r + 10 + n by omega), sI_n (show r + 2 ≠ r + 4 + n by omega), hn', nI_1]
  refine ⟨_, rfl, ?_, ((((frW.rf.put (by omega) (by omega)).put (by omega) (by omega)).put (by omega) (by omega)).put (by omega) (by omega)).put (by omega) (by omega)⟩
  rw [show (sI (sI (sI (sI (sI M 123 (r + 4 + n) kd) 123 (r + 10 + n) x) 123 (r + 16 + n) y) 123 (r + 22 + n) 0) 123 (r + 2) (nI (n + 1))).1 = up2 (up2 (up2 (up2 (up2 M.1 123 (r + (4 + n)) kd) 123 (r + (10 + n)) x) 123 (r + (16 + n)) y) 123 (r + (22 + n)) 0) 123 (r + 2) (nI (n + 1)) from by simp only [Nat.add_assoc]; rfl, VR_up, VR_up, VR_up, VR_up, VR_up]
def lkU (V : Nat → Int32) (n : Nat) (kd x y : Int32) : Nat → Int32 := upd (upd (upd (upd (upd V (4 + n) kd) (10 + n) x) (16 + n) y) (22 + n) 0) 2 (nI (n + 1))
theorem okV_link {V : Nat → Int32} {n np : Nat} {kd x y : Int32} (h : okV V n np) (h6 : n < 6) (hy : bn y 0 (V 0).toInt) : okV (lkU V n kd x y) (n + 1) np := by
  obtain ⟨a1, a2, a3, a4, a5, a6, a7, a8⟩ := h
  have o : ∀ j, j ≠ 2 → j ≠ 4 + n → j ≠ 10 + n → j ≠ 16 + n → j ≠ 22 + n → lkU V n kd x y j = V j := fun j q1 q2 q3 q4 q5 => by unfold lkU; rw [upd_n _ _ q1, upd_n _ _ q5, upd_n _ _ q4, upd_n _ _ q3, upd_n _ _ q2]
  refine ⟨by unfold lkU; rw [upd_s], by omega, by rw [o 3 (by omega) (by omega) (by omega) (by omega) (by omega)]; exact a3, a4, by rw [o 0 (by omega) (by omega) (by omega) (by omega) (by omega)]; exact a5, by rw [o 1 (by omega) (by omega) (by omega) (by omega) (by omega)]; exact a6, fun k hk => ?_, fun i hi => ?_⟩
  · rw [o 0 (by omega) (by omega) (by omega) (by omega) (by omega)]
    by_cases e : k = n
    · subst e
      unfold lkU
      rw [upd_n _ _ (by omega), upd_n _ _ (by omega), upd_s, upd_n _ _ (by omega), upd_s]
      exact ⟨hy, by rw [i0]; omega, by rw [i0]; omega⟩
    · rw [o _ (by omega) (by omega) (by omega) (by omega) (by omega), o _ (by omega) (by omega) (by omega) (by omega) (by omega)]; exact a7 k (by omega)
  · rw [o 0 (by omega) (by omega) (by omega) (by omega) (by omega), o _ (by omega) (by omega) (by omega) (by omega) (by omega), o _ (by omega) (by omega) (by omega) (by omega) (by omega)]; exact a8 i hi
theorem eqv_link {V W : Nat → Int32} {n np : Nat} {kd x y : Int32} (h : eqv n np V W) (h6 : n < 6) (h4 : np ≤ 4) : eqv (n + 1) np (lkU V n kd x y) (lkU W n kd x y) := by
  refine eqv_iff.mpr (fun j hj => ?_)
  have h0 := eqv_iff.mp h j
  unfold lkU
  by_cases e1 : j = 2
  · subst e1; rw [upd_s, upd_s]
  rw [upd_n _ _ e1, upd_n _ _ e1]
  by_cases e2 : j = 22 + n
  · subst e2; rw [upd_s, upd_s]
  rw [upd_n _ _ e2, upd_n _ _ e2]
  by_cases e3 : j = 16 + n
  · subst e3; rw [upd_s, upd_s]
  rw [upd_n _ _ e3, upd_n _ _ e3]
  by_cases e4 : j = 10 + n
  · subst e4; rw [upd_s, upd_s]
  rw [upd_n _ _ e4, upd_n _ _ e4]
  by_cases e5 : j = 4 + n
  · subst e5; rw [upd_s, upd_s]
  rw [upd_n _ _ e5, upd_n _ _ e5]
  refine h0 ?_
  unfold rel at hj ⊢
  omega
theorem lkG_V {M : mm} {n np hs : Nat} {q : Nat → Nat} (g : GM M n np hs q) (x : Int32) : lkG (M.1 (2 + 2)) x n 0 = lkG (fun k => VR M.1 0 (10 + k)) x n 0 := lkG_eq (fun j h1 h2 => by rw [← (g.2.1.2.2.2.2.1 j (by omega)).2.1, VC_2 _ _ (by have := g.n6; omega)])
theorem op_link (a b c : Int32) : Op (fX10_link 0 a b c) (fX11_link 122 a b c) := by
  intro M h
  obtain ⟨n, np, hs, q, g⟩ := h.gm
  have h4 := g.np6
  have hn6 := g.n6
  have hw0 : ∀ M', M' = M ∨ M' = badC M ∨ M' = noC M ∨ M' = fullC M → M'.1 123 = M.1 123 := by
    intro M' hM'
    rcases hM' with rfl | rfl | rfl | rfl
    · rfl
    · unfold badC; rw [sI_o (by omega)]
    · unfold noC; rw [sI_o (by omega)]
    · unfold fullC; rw [sI_o (by omega)]
  have hin : ∀ x y z : Int32, (y.toInt64 ≤ x.toInt64 ∧ x.toInt64 ≤ z.toInt64) ↔ (y ≤ x ∧ x ≤ z) := fun x y z => by rw [b_le, b_le]
  unfold fX10_link fX11_link fX10_link_50 fX11_link_43
  simp only [o_0, o_122, r_0_0, r_1_0, r_1_1, r_122_0, bi0 brd_2, Option.bind_some, f10_within, f11_in, gx_bd_some, f10_bad, f11_bad', f11_isSquare, aI_lit 852 (show isA 123 0 852 = true by decide) (by decide) (show 0 < 852 by decide) (by decide), show (0 : Int64) = (0 : Int32).toInt64 from rfl, show (1 : Int64) = (1 : Int32).toInt64 from rfl, show (5 : Int64) = (5 : Int32).toInt64 from rfl, b_le]
  unfold fX10_link_51 fX10_link_63
  simp only [f10_bad, gx_bd_some, if_true]
  by_cases c1 : 0 ≤ a ∧ a ≤ 5
  case neg =>
    rw [b2_f c1, if_pos rfl]
    exact ⟨_, badC M, badR (badC M), rfl, by rw [if_pos rfl], h.bad⟩
  rw [b2_t c1, if_neg (by decide)]
  by_cases c2 : 1 ≤ b ∧ b ≤ M.1 2 0 - 1
  case neg =>
    rw [b2_f c2, if_pos rfl]
    refine ⟨_, badC M, badR (badC M), rfl, ?_, h.bad⟩
    rw [if_neg (by decide), hw0 (badC M) (by simp), g.w0, b2_f c2, if_pos rfl]
  rw [b2_t c2, if_neg (by decide)]
  by_cases c3 : 0 ≤ c ∧ c ≤ M.1 2 0
  case neg =>
    rw [b2_f c3, if_pos rfl]
    refine ⟨_, badC M, badR (badC M), rfl, ?_, h.bad⟩
    rw [if_neg (by decide), hw0 (badC M) (by simp), g.w0, b2_t c2, if_neg (by decide), b2_f c3, if_pos rfl]
  rw [b2_t c3, if_neg (by decide), if_neg (by decide)]
  by_cases c4 : b = c
  case pos =>
    rw [if_pos c4]
    refine ⟨_, badC M, badR (badC M), rfl, ?_, h.bad⟩
    rw [if_neg (by decide), hw0 (badC M) (by simp), g.w0, b2_t c2, if_neg (by decide), b2_t c3, if_neg (by decide), if_pos c4]
  rw [if_neg c4, c_linkOn brd_2 b g.nn hn6, gx_bd_some]
  have hR : ∀ M', M'.1 123 = M.1 123 → fX11_linkFrom 122 (0 : Int32) b (lay M') = some (lkI (lkG (M.1 (2 + 2)) b n 0), lay M') := by
    intro M' hM'
    have e : VR M'.1 0 = VR M.1 0 := by unfold VR; rw [hM']
    rw [show (0 : Int32) = nI 0 from rfl, r_linkFrom b (by omega) (by rw [e, VR0, g.w2]; exact g.nn) hn6, e, lkG_V g]
  cases hq : lkG (M.1 (2 + 2)) b n 0 with
  | some k =>
    have hk := (lkG_some hq).2.1
    rw [show lkI (some k) = nI k from rfl, if_neg (lkI_some (by omega)), f10_no, gx_bd_some]
    refine ⟨_, noC M, noR (noC M), rfl, ?_, h.no⟩
    rw [if_neg (by decide), hw0 (noC M) (by simp), g.w0, b2_t c2, if_neg (by decide), b2_t c3, if_neg (by decide), if_neg c4, hR _ (hw0 (noC M) (by simp)), gx_bd_some, hq, show lkI (some k) = nI k from rfl, if_neg (nI_pos (by omega)), f11_no', gx_bd_some]
  | none =>
    rw [show lkI none = -1 from rfl, if_pos rfl, bi2 brd_2, Option.bind_some, g.nn]
    by_cases c5 : n = 6
    · rw [if_neg (by rw [c5]; decide), f10_full, gx_bd_some]
      refine ⟨_, fullC M, fullR (fullC M), rfl, ?_, h.full⟩
      rw [if_neg (by decide), hw0 (fullC M) (by simp), g.w0, b2_t c2, if_neg (by decide), b2_t c3, if_neg (by decide), if_neg c4, hR _ (hw0 (fullC M) (by simp)), gx_bd_some, hq, show lkI none = -1 from rfl, if_pos (by decide), r_122_0, Option.bind_some, show (2 : Int32) = nI 2 from rfl, ra (by omega), Option.bind_some, hw0 (fullC M) (by simp), g.w2, g.nn, if_pos (by rw [c5]; rfl), f11_full', gx_bd_some]
    · have hlt : n < 6 := by omega
      rw [if_pos (show nI n < (6 : Int32) from nI_lt (b := 6) hlt (by omega))]
      unfold fX3_empty
      simp only [r_0_0, r_1_1, o_10, pi_10_0, Option.bind_some, gx_bd_some]
      have hn1 : (sI M 10 0 0).1 2 2 = nI n := by rw [sI_o (by omega)]; exact g.nn
      obtain ⟨M1, e1, v1, f1⟩ := c_addLink (M := sI M 10 0 0) brd_2 hn1 hlt a b c
      rw [e1, gx_bd_some]
      have eV0 : VC (sI M 10 0 0).1 2 = VC M.1 2 := VC_out M.1 0 (by omega)
      have f1' : ∀ c, c < 2 ∨ 10 ≤ c → M1.1 c = (sI M 10 0 0).1 c := fun c hc => f1.2 c (fun q => by unfold inB at q; omega)
      have ew : M1.1 123 = M.1 123 := by rw [f1' 123 (by omega), sI_o (by omega)]
      have eW : VR M1.1 0 = VR M.1 0 := by unfold VR; rw [ew]
      have hr2 : VR M1.1 0 2 = nI n := by rw [eW, VR0, g.w2]; exact g.nn
      obtain ⟨M2, e2, v2, f2⟩ := r_addsLink (M := M1) (r := 0) (by omega) hr2 hlt a b c
      refine ⟨_, M1, sI M2 123 90 0, rfl, ?_, ?_⟩
      · rw [if_neg (by decide), ew, g.w0, b2_t c2, if_neg (by decide), b2_t c3, if_neg (by decide), if_neg c4, hR _ ew, gx_bd_some, hq, show lkI none = -1 from rfl, if_pos (by decide), r_122_0, Option.bind_some, show (2 : Int32) = nI 2 from rfl, ra (by omega), Option.bind_some, ew, g.w2, g.nn, if_neg (show ¬ nI n = (6 : Int32) from fun z => c5 ((nI_eq (b := 6) (by omega) (by omega)).mp z)), show (0 : Int32) = nI 0 from rfl, e2, gx_bd_some, r_122_0, Option.bind_some, show (90 : Int32) = nI 90 from rfl, rs (by omega), Option.bind_some, r_122_0, Option.bind_some, ra (by omega), Option.bind_some, sI_n (by omega), ← VR0 M2.1 2, v2, upd_s, nI_pred]
      · have hV2 : VC (sI M2 123 90 0).1 2 = VC M1.1 2 := by
          rw [show (sI M2 123 90 0).1 = up2 M2.1 123 90 0 from rfl, VC_out _ _ (by omega)]
          exact VC_eq (fun a h1 h2 => f2.2.1 a (by omega))
        have hW2 : VR (sI M2 123 90 0).1 0 = upd (VR M2.1 0) 90 0 := VR0_up M2.1 90 0
        refine h.reset (n' := n + 1) (np' := np) ?_ ?_ ?_ ?_ ?_ ?_ ?_
        · rw [hV2, v1, eV0]
          refine okV_link g.1 hlt ?_
          rw [VC_0 _ _ (by omega)]
          exact ⟨by have := c3.1; rw [t_le, i0] at this; exact this, by have := c3.2; rw [t_le] at this; exact this⟩
        · rw [hV2, v1, eV0, hW2, v2, eW]
          have := eqv_iff.mp (eqv_link (kd := a) (x := b) (y := c) g.2.1 hlt h4)
          refine eqv_iff.mpr (fun j hj => ?_)
          rw [upd_n _ (0 : Int32) (show j ≠ 90 by unfold rel at hj; omega)]
          exact this j hj
        · rw [sI_o (by omega), f2.2.1 10 (by omega), f1' 10 (by omega), sI_s]
        · rw [sI_s]
        · show M2.2 = M.2
          rw [f2.1, f1.1]; rfl
        · intro c h1 h2
          rw [sI_o h2, f2.2.1 c h2, f1' c (by omega), sI_o (by omega)]
        · intro j hj
          rw [sI_n (by omega), f2.2.2 j (by omega), ew]
