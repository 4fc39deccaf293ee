def rel (n np j : Nat) : Prop := j < 4 ∨ (4 ≤ j ∧ j < 4 + n) ∨ (10 ≤ j ∧ j < 10 + n) ∨ (16 ≤ j ∧ j < 16 + n) ∨ (22 ≤ j ∧ j < 22 + n) ∨ (28 ≤ j ∧ j < 28 + np) ∨ (32 ≤ j ∧ j < 32 + np) ∨ (36 ≤ j ∧ j < 36 + np)
theorem eqv_iff {n np : Nat} {V W : Nat → Int32} : eqv n np V W ↔ ∀ j, rel n np j → V j = W j := by
  constructor
  · rintro ⟨h0, h1, h2, h3, hk, hi⟩ j hj
    unfold rel at hj
    rcases hj with q | ⟨q, q2⟩ | ⟨q, q2⟩ | ⟨q, q2⟩ | ⟨q, q2⟩ | ⟨q, q2⟩ | ⟨q, q2⟩ | ⟨q, q2⟩
    · rcases (show j = 0 ∨ j = 1 ∨ j = 2 ∨ j = 3 by omega) with rfl | rfl | rfl | rfl <;> assumption
    · have := (hk (j - 4) (by omega)).1; rwa [show 4 + (j - 4) = j by omega] at this
    · have := (hk (j - 10) (by omega)).2.1; rwa [show 10 + (j - 10) = j by omega] at this
    · have := (hk (j - 16) (by omega)).2.2.1; rwa [show 16 + (j - 16) = j by omega] at this
    · have := (hk (j - 22) (by omega)).2.2.2; rwa [show 22 + (j - 22) = j by omega] at this
    · have := (hi (j - 28) (by omega)).1; rwa [show 28 + (j - 28) = j by omega] at this
    · have := (hi (j - 32) (by omega)).2.1; rwa [show 32 + (j - 32) = j by omega] at this
    · have := (hi (j - 36) (by omega)).2.2; rwa [show 36 + (j - 36) = j by omega] at this
  · intro h
    exact ⟨h 0 (by unfold rel; omega), h 1 (by unfold rel; omega), h 2 (by unfold rel; omega), h 3 (by unfold rel; omega), fun k hk => ⟨h _ (by unfold rel; omega), h _ (by unfold rel; omega), h _ (by unfold rel; omega), h _ (by unfold rel; omega)⟩, fun i hi => ⟨h _ (by unfold rel; omega), h _ (by unfold rel; omega), h _ (by unfold rel; omega)⟩⟩
theorem VR_out (C : Nat → Nat → Int32) {r c k : Nat} (x : Int32) (h : c ≠ 123) : VR (up2 C c k x) r = VR C r := by
  funext j
  exact up2_n C x (fun q => h q.1.symm)
theorem VR0_up (C : Nat → Nat → Int32) (j : Nat) (x : Int32) : VR (up2 C 123 j x) 0 = upd (VR C 0) j x := by
  have := VR_up C 0 j x
  rwa [Nat.zero_add] at this
theorem seenR.eq {G G' : Nat → Nat → Int32} {s p : Nat} {w w' : Nat → Int32} (h : seenR G s w p) (hG : ∀ a, s ≤ a → a < s + 5 → G' a = G a) (hw : ∀ j, p ≤ j → j < p + 25 → w' j = w j) : seenR G' s w' p := by
  obtain ⟨m, m1, m2, m3, m4, m5⟩ := h
  refine ⟨m, m1, by rw [hG s (by omega) (by omega)]; exact m2, by rw [hw p (by omega) (by omega)]; exact m3, fun e he => ?_, fun e he => by rw [hG (s + 3) (by omega) (by omega)]; exact m5 e he⟩
  rw [hG (s + 1) (by omega) (by omega), hG (s + 2) (by omega) (by omega), hG (s + 3) (by omega) (by omega), hG (s + 4) (by omega) (by omega), hw _ (by omega) (by omega), hw _ (by omega) (by omega), hw _ (by omega) (by omega), hw _ (by omega) (by omega)]
  exact m4 e he
theorem Inv.game2 {M M2 : mm} (h : Inv M) {n np hs : Nat} {q : Nat → Nat} (g : GM M2 n np hs q) (hp : ∀ a, a ≠ 11 → M2.2.2 a = M.2.2 a) (hj : M2.2.1 = M.2.1) (hc : ∀ a, 30 ≤ a → a ≠ 123 → M2.1 a = M.1 a) (h0 : M2.1 0 = M.1 0) (hw : ∀ j, 203 ≤ j → j < 609 → M2.1 123 j = M.1 123 j) : Inv M2 :=
  h.game (GM_iff.mpr ⟨n, np, hs, q, g⟩) hp hj (fun a h1 h2 => hc a h1 (by omega)) hw (by unfold ST; rw [h0, hc 126 (by omega) (by omega)]; exact h.2.2.2.2.2.1)
theorem Inv.reset {M M2 : mm} (h : Inv M) {n' np' : Nat} (hok : okV (VC M2.1 2) n' np') (he : eqv n' np' (VC M2.1 2) (VR M2.1 0)) (h10 : M2.1 10 0 = 0) (h90 : M2.1 123 90 = 0) (h2 : M2.2 = M.2) (hc : ∀ a, a = 0 ∨ 20 ≤ a → a ≠ 123 → M2.1 a = M.1 a) (hw : ∀ j, (40 ≤ j ∧ j < 90) ∨ (203 ≤ j ∧ j < 609) → M2.1 123 j = M.1 123 j) : Inv M2 := by
  obtain ⟨n, np, hs, q, a1, a2, a3, a4, a5, a6, a7, a8, a9, a10⟩ := h.gm
  refine h.game2 (n := n') (np := np') (hs := 0) (q := q) ⟨hok, he, a3.eq (fun a q1 q2 => hc _ (by omega) (by omega)) (fun j q1 q2 => by rw [VR0, VR0]; exact hw j (by omega)), a4.eq (fun a q1 q2 => hc _ (by omega) (by omega)) (fun j q1 q2 => by rw [VR0, VR0]; exact hw j (by omega)), by omega, h10, h90, by rw [h2]; exact a8, a9, trivial⟩ (fun a _ => by rw [h2]) (by rw [h2]) (fun a q1 q2 => hc a (by omega) q2) (hc 0 (by omega) (by omega)) (fun j q1 q2 => hw j (by omega))
theorem op_die (a : Int32) : Op (fX10_die 0 a) (fX11_die 122 a) := by
  intro M h
  obtain ⟨n, np, hs, q, g⟩ := h.gm
  unfold fX10_die fX11_die fX3_empty
  simp only [o_0, o_122, r_0_0, r_1_0, r_1_1, r_122_0, bi1 brd_2, bp1 brd_2, o_10, pi_10_0, Option.bind_some, f10_within, f11_in, gx_bd_some, f10_bad, f11_bad', aI_lit 852 (show isA 123 0 852 = true by decide) (by decide) (show 1 < 852 by decide) (by decide), show (2 : Int64) = (2 : Int32).toInt64 from rfl, show (6 : Int64) = (6 : Int32).toInt64 from rfl, b_le]
  by_cases c : 2 ≤ a ∧ a ≤ 6
  · rw [b2_t c, if_neg (by decide)]
    obtain ⟨d, hd0, hd, rfl⟩ := in_n (a := 2) (b := 6) (by omega) c (by omega)
    refine ⟨_, sI (sI M 2 1 (nI d)) 10 0 0, sI (sI (sI (sI M 2 1 (nI d)) 10 0 0) 123 1 (nI d)) 123 90 0, rfl, ?_, ?_⟩
    · rw [if_neg (by decide), show (1 : Int32) = nI 1 from rfl, rs (by omega)]
      simp only [r_122_0, Option.bind_some]
      rw [show (90 : Int32) = nI 90 from rfl, rs (by omega), Option.bind_some]
      rw [sI_o (by omega), sI_o (by omega), g.w1]
    · have e1 : (sI (sI (sI (sI M 2 1 (nI d)) 10 0 0) 123 1 (nI d)) 123 90 0).1 = up2 (up2 (up2 (up2 M.1 2 1 (nI d)) 10 0 0) 123 1 (nI d)) 123 90 0 := rfl
      have eV : VC (sI (sI (sI (sI M 2 1 (nI d)) 10 0 0) 123 1 (nI d)) 123 90 0).1 2 = upd (VC M.1 2) 1 (nI d) := by rw [e1, VC_out _ _ (by omega), VC_out _ _ (by omega), VC_out _ _ (by omega), VC_u0 _ _ _ (by omega)]
      have eW : VR (sI (sI (sI (sI M 2 1 (nI d)) 10 0 0) 123 1 (nI d)) 123 90 0).1 0 = upd (upd (VR M.1 0) 1 (nI d)) 90 0 := by rw [e1, VR0_up, VR0_up, VR_out _ _ (by omega), VR_out _ _ (by omega)]
      refine h.reset (n' := n) (np' := np) ?_ ?_ ?_ ?_ rfl ?_ ?_
      · rw [eV]
        obtain ⟨a1, a2, a3, a4, a5, a6, a7, a8⟩ := g.1
        refine ⟨by rw [upd_n _ _ (by omega)]; exact a1, a2, by rw [upd_n _ _ (by omega)]; exact a3, a4, by rw [upd_n _ _ (by omega)]; exact a5, by rw [upd_s]; exact nI_bn (by omega) (by omega) (by omega), fun k hk => ?_, fun i hi => ?_⟩
        · rw [upd_n _ _ (by omega), upd_n _ _ (by omega), upd_n _ _ (by omega)]; exact a7 k hk
        · rw [upd_n _ _ (by omega), upd_n _ _ (by omega), upd_n _ _ (by omega)]; exact a8 i hi
      · rw [eV, eW]
        refine eqv_iff.mpr (fun j hj => ?_)
        have h0 := eqv_iff.mp g.2.1 j hj
        have hn := g.n6
        have hp := g.np6
        unfold rel at hj
        by_cases e : j = 1
        · subst e; rw [upd_s, upd_n _ _ (by omega), upd_s]
        · rw [upd_n _ _ e, upd_n _ _ (by omega), upd_n _ _ e]; exact h0
      · rw [sI_o (by omega), sI_o (by omega), sI_s]
      · rw [sI_s]
      · intro a h1 h2
        rw [sI_o h2, sI_o h2, sI_o (by omega), sI_o (by omega)]
      · intro j hj
        rw [sI_n (by omega), sI_n (by omega), sI_o (by omega), sI_o (by omega)]
  · rw [b2_f c, if_pos rfl]
    refine ⟨_, badC M, badR (badC M), rfl, ?_, h.bad⟩
    rw [if_pos rfl]
theorem c_addPlayer {M : mm} {b np : Nat} (hb : brd b) (hn : M.1 b 3 = nI np) (h4 : np < 4) (kd : Int32) : ∃ M', fX0_addPlayer b kd (lay M) = some (nI np, lay M') ∧ VC M'.1 b = upd (upd (upd (upd (VC M.1 b) (28 + np) kd) (32 + np) 0) (36 + np) 0) 3 (nI (np + 1)) ∧ fr (inB b) M M' := by
  unfold fX0_addPlayer
  simp only [bo hb, bi3 hb, hn, Option.bind_some]
  rw [if_pos (show nI np < (4 : Int32) from nI_lt (b := 4) h4 (by omega))]
  simp only [br8 hb, br9 hb, br10 hb, bs5 hb h4, bs6 hb h4, bs7 hb h4, bi3 hb, bp3 hb, Option.bind_some]
  rw [sI_o (show b ≠ b + 7 by omega), sI_o (show b ≠ b + 6 by omega), sI_o (show b ≠ b + 5 by omega), hn, nI_1]
  refine ⟨_, rfl, ?_, (((fr.rf.put ⟨by omega, by omega⟩).put ⟨by omega, by omega⟩).put ⟨by omega, by omega⟩).put ⟨by omega, by omega⟩⟩
  rw [show (sI (sI (sI (sI M (b + 5) np kd) (b + 6) np 0) (b + 7) np 0) b 3 (nI (np + 1))).1 = up2 (up2 (up2 (up2 M.1 (b + 5) np kd) (b + 6) np 0) (b + 7) np 0) b 3 (nI (np + 1)) from rfl, VC_u0 _ _ _ (by omega), VC_u7 _ _ _ h4, VC_u6 _ _ _ h4, VC_u5 _ _ _ h4]
theorem r_addsPlayer {M : mm} {r np : Nat} (hr : r ≤ 812) (hn : VR M.1 r 3 = nI np) (h4 : np < 4) (kd : Int32) : ∃ M', fX11_addsPlayer 122 (nI r) kd (lay M) = some ((), lay M') ∧ VR M'.1 r = upd (upd (upd (upd (VR M.1 r) (28 + np) kd) (32 + np) 0) (36 + np) 0) 3 (nI (np + 1)) ∧ frW r (r + 40) M M' := by
  have hn' : M.1 123 (r + 3) = nI np := hn
  unfold fX11_addsPlayer
  simp only [o_122, r_122_0, Option.bind_some, nIl, ra (show r + 3 < 852 by omega), hn', nI_add, rs (show r + 28 + np < 852 by omega), rs (show r + 32 + np < 852 by omega), rs (show r + 36 + np < 852 by omega), rs (show r + 3 < 852 by omega)]
  rw [sI_n (show r + 3 ≠ r + 36 + np by omega), sI_n (show r + 3 ≠ r + 32 + np by omega), sI_n (show r + 3 ≠ r + 28 + np by omega), hn', nI_1]
  refine ⟨_, rfl, ?_, (((frW.rf.put (by omega) (by omega)).put (by omega) (by omega)).put (by omega) (by omega)).put (by omega) (by omega)⟩
  rw [show (sI (sI (sI (sI M 123 (r + 28 + np) kd) 123 (r + 32 + np) 0) 123 (r + 36 + np) 0) 123 (r + 3) (nI (np + 1))).1 = up2 (up2 (up2 (up2 M.1 123 (r + (28 + np)) kd) 123 (r + (32 + np)) 0) 123 (r + (36 + np)) 0) 123 (r + 3) (nI (np + 1)) from by simp only [Nat.add_assoc]; rfl, VR_up, VR_up, VR_up, VR_up]
theorem okV_player {V : Nat → Int32} {n np : Nat} {kd : Int32} (h : okV V n np) (h4 : np < 4) : okV (upd (upd (upd (upd V (28 + np) kd) (32 + np) 0) (36 + np) 0) 3 (nI (np + 1))) n (np + 1) := by
  obtain ⟨a1, a2, a3, a4, a5, a6, a7, a8⟩ := h
  have o : ∀ j, j ≠ 3 → j ≠ 28 + np → j ≠ 32 + np → j ≠ 36 + np → upd (upd (upd (upd V (28 + np) kd) (32 + np) 0) (36 + np) 0) 3 (nI (np + 1)) j = V j := fun j q1 q2 q3 q4 => by rw [upd_n _ _ q1, upd_n _ _ q4, upd_n _ _ q3, upd_n _ _ q2]
  refine ⟨by rw [o 2 (by omega) (by omega) (by omega) (by omega)]; exact a1, a2, by rw [upd_s], by omega, by rw [o 0 (by omega) (by omega) (by omega) (by omega)]; exact a5, by rw [o 1 (by omega) (by omega) (by omega) (by omega)]; exact a6, fun k hk => ?_, fun i hi => ?_⟩
  · rw [o 0 (by omega) (by omega) (by omega) (by omega), o _ (by omega) (by omega) (by omega) (by omega), o _ (by omega) (by omega) (by omega) (by omega)]; exact a7 k hk
  · rw [o 0 (by omega) (by omega) (by omega) (by omega)]
    by_cases e : i = np
    · subst e
      rw [upd_n _ _ (by omega), upd_n _ _ (by omega), upd_s, upd_n _ _ (by omega), upd_s]
      have h0 := a5.1
      exact ⟨⟨by rw [i0]; omega, by rw [i0]; omega⟩, ⟨by rw [i0]; omega, by rw [i0]; omega⟩⟩
    · rw [o _ (by omega) (by omega) (by omega) (by omega), o _ (by omega) (by omega) (by omega) (by omega)]; exact a8 i (by omega)
theorem eqv_player {V W : Nat → Int32} {n np : Nat} {kd : Int32} (h : eqv n np V W) (hn : n ≤ 6) (h4 : np < 4) : eqv n (np + 1) (upd (upd (upd (upd V (28 + np) kd) (32 + np) 0) (36 + np) 0) 3 (nI (np + 1))) (upd (upd (upd (upd W (28 + np) kd) (32 + np) 0) (36 + np) 0) 3 (nI (np + 1))) := by
  refine eqv_iff.mpr (fun j hj => ?_)
  have h0 := eqv_iff.mp h j
  by_cases e1 : j = 3
  · subst e1; rw [upd_s, upd_s]
  rw [upd_n _ _ e1, upd_n _ _ e1]
  by_cases e2 : j = 36 + np
  · subst e2; rw [upd_s, upd_s]
  rw [upd_n _ _ e2, upd_n _ _ e2]
  by_cases e3 : j = 32 + np
  · subst e3; rw [upd_s, upd_s]
  rw [upd_n _ _ e3, upd_n _ _ e3]
  by_cases e4 : j = 28 + np
  · subst e4; rw [upd_s, upd_s]
  rw [upd_n _ _ e4, upd_n _ _ e4]
  refine h0 ?_
  unfold rel at hj ⊢
  omega
theorem op_player (a : Int32) : Op (fX10_player 0 a) (fX11_player 122 a) := by
  intro M h
  obtain ⟨n, np, hs, q, g⟩ := h.gm
  have h4 := g.np6
  have hn6 := g.n6
  unfold fX10_player fX11_player fX3_empty
  simp only [o_0, o_122, r_0_0, r_1_0, r_1_1, r_122_0, bi3 brd_2, o_10, pi_10_0, Option.bind_some, f10_within, f11_in, gx_bd_some, f10_bad, f11_bad', f10_full, f11_full', aI_lit 852 (show isA 123 0 852 = true by decide) (by decide) (show 3 < 852 by decide) (by decide), show (0 : Int64) = (0 : Int32).toInt64 from rfl, show (5 : Int64) = (5 : Int32).toInt64 from rfl, b_le]
  by_cases c : 0 ≤ a ∧ a ≤ 5
  · rw [b2_t c, if_neg (by decide), g.pp]
    by_cases c2 : np = 4
    · rw [if_neg (by rw [c2]; decide)]
      refine ⟨_, fullC M, fullR (fullC M), rfl, ?_, h.full⟩
      rw [if_neg (by decide), show (fullC M).1 123 3 = M.1 123 3 from by unfold fullC; rw [sI_o (by omega)], g.w3, g.pp, if_pos (by rw [c2]; rfl)]
    · have hlt : np < 4 := by omega
      rw [if_pos (show nI np < (4 : Int32) from nI_lt (b := 4) hlt (by omega))]
      have hn1 : (sI M 10 0 0).1 2 3 = nI np := by rw [sI_o (by omega)]; exact g.pp
      obtain ⟨M1, e1, v1, f1⟩ := c_addPlayer (M := sI M 10 0 0) brd_2 hn1 hlt a
      rw [e1, gx_bd_some]
      have eV0 : VC (sI M 10 0 0).1 2 = VC M.1 2 := VC_out M.1 0 (by omega)
      have f1' : ∀ c, c < 2 ∨ 10 ≤ c → M1.1 c = (sI M 10 0 0).1 c := fun c hc => f1.2 c (fun q => by unfold inB at q; omega)
      have ew : M1.1 123 = M.1 123 := by rw [f1' 123 (by omega), sI_o (by omega)]
      have eW : VR M1.1 0 = VR M.1 0 := by unfold VR; rw [ew]
      have hr3 : VR M1.1 0 3 = nI np := by rw [eW, VR0, g.w3]; exact g.pp
      obtain ⟨M2, e2, v2, f2⟩ := r_addsPlayer (M := M1) (r := 0) (by omega) hr3 hlt a
      refine ⟨_, M1, sI M2 123 90 0, rfl, ?_, ?_⟩
      · rw [if_neg (by decide), ew, g.w3, g.pp, if_neg (show ¬ nI np = (4 : Int32) from fun z => c2 ((nI_eq (b := 4) (by omega) (by omega)).mp z)), show (0 : Int32) = nI 0 from rfl, e2, gx_bd_some]
        simp only [r_122_0, Option.bind_some]
        rw [show (90 : Int32) = nI 90 from rfl, rs (by omega)]
        simp only [r_122_0, Option.bind_some]
        rw [show (3 : Int32) = nI 3 from rfl, ra (by omega), Option.bind_some, sI_n (by omega), ← VR0 M2.1 3, v2, upd_s, nI_pred]
      · have hV2 : VC (sI M2 123 90 0).1 2 = VC M1.1 2 := by
          rw [show (sI M2 123 90 0).1 = up2 M2.1 123 90 0 from rfl, VC_out _ _ (by omega)]
          exact VC_eq (fun a h1 h2 => f2.2.1 a (by omega))
        have hW2 : VR (sI M2 123 90 0).1 0 = upd (VR M2.1 0) 90 0 := VR0_up M2.1 90 0
        refine h.reset (n' := n) (np' := np + 1) ?_ ?_ ?_ ?_ ?_ ?_ ?_
        · rw [hV2, v1, eV0]; exact okV_player g.1 hlt
        · rw [hV2, v1, eV0, hW2, v2, eW]
          have := eqv_iff.mp (eqv_player (kd := a) g.2.1 hn6 hlt)
          refine eqv_iff.mpr (fun j hj => ?_)
          rw [this j hj]
          rw [upd_n _ (0 : Int32) (show j ≠ 90 by unfold rel at hj; omega)]
        · rw [sI_o (by omega), f2.2.1 10 (by omega), f1' 10 (by omega), sI_s]
        · rw [sI_s]
        · show M2.2 = M.2
          rw [f2.1, f1.1]; rfl
        · intro c h1 h2
          rw [sI_o h2, f2.2.1 c h2, f1' c (by omega), sI_o (by omega)]
        · intro j hj
          rw [sI_n (by omega), f2.2.2 j (by omega), ew]
  · rw [b2_f c, if_pos rfl]
    refine ⟨_, badC M, badR (badC M), rfl, ?_, h.bad⟩
    rw [if_pos rfl]
