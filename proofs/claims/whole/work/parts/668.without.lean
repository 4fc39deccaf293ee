/-! without: a link left out -/
section WO
variable {d n np i T : Nat} {V : Nat → Int32}
theorem c_worst_21 {l : Nat} (hd1 : 2 ≤ d) (hd : d ≤ 6) (hi : i < np) (hT : T ≤ 5) (hl : l ≤ 40) (hok : okV V n np) (h0 : V 0 = nI l) (h1 : V 1 = nI d) : ∀ (m k F : Nat) (M : mm), k + m = n → m < F → VC M.1 102 = V → (∀ j, j < 5 → M.2.2 110 j = some (111 + j)) → M.1 101 6 = cB1 (ws (fun k => SS d n (fun _ => i) (Fh i) T (upd V (10 + k) (-1))) k) → M.1 101 7 = cB2 (ws (fun k => SS d n (fun _ => i) (Fh i) T (upd V (10 + k) (-1))) k) → ∃ M', fX5_findWorstLink_21 F 101 (nI i) (nI T) (nI k) (lay M) = some ((), lay M') ∧ frO M M' ∧ M'.1 101 6 = cB1 (ws (fun k => SS d n (fun _ => i) (Fh i) T (upd V (10 + k) (-1))) n) ∧ M'.1 101 7 = cB2 (ws (fun k => SS d n (fun _ => i) (Fh i) T (upd V (10 + k) (-1))) n)
  | m, k, 0, M, _, hF, _, _, _, _ => by omega
  | 0, k, F + 1, M, hk, _, hV, hP, e6, e7 => by
    have e : k = n := by omega
    subst e
    have hN : M.1 102 2 = nI k := by rw [← VC_0 M.1 102 (by omega), hV]; exact hok.1
    have hn6 := hok.2.1
    show ∃ M', bX5_findWorstLink_21 (fX5_findWorstLink_21 F) 101 (nI i) (nI T) (nI k) (lay M) = _ ∧ _
    unfold bX5_findWorstLink_21
    rw [r_101_0, Option.bind_some, bi2 brd_102, Option.bind_some, hN, if_pos (nI_le (by omega) (by omega))]
    exact ⟨M, rfl, frO.rf, e6, e7⟩
  | m + 1, k, F + 1, M, hk, hF, hV, hP, e6, e7 => by
    have h4 : i < 4 := Nat.lt_of_lt_of_le hi hok.2.2.2.1
    have hn6 := hok.2.1
    have hk6 : k < 6 := by omega
    have hpw := pow_bd hd hT
    generalize hf : (fun k => SS d n (fun _ => i) (Fh i) T (upd V (10 + k) (-1))) = f at *
    have hfb : ∀ k, f k ≤ 7776 := fun k => by
      rw [← hf]
      have := SS_h1 (d := d) (n := n) (i := i) (T := T) (V := upd V (10 + k) (-1))
      show SS d n (fun _ => i) (Fh i) T (upd V (10 + k) (-1)) ≤ _
      omega
    have hN : M.1 102 2 = nI n := by rw [← VC_0 M.1 102 (by omega), hV]; exact hok.1
    generalize hM0 : sI M (102 + 2) k (-1) = M0
    have hV0 : VC M0.1 102 = upd V (10 + k) (-1) := by
      rw [← hM0, ← hV]
      exact VC_u2 _ _ _ hk6
    have f0 : ∀ a, a ≠ 104 → M0.1 a = M.1 a := fun a ha => by rw [← hM0, sI_o (by omega)]
    have f02 : M0.2 = M.2 := by rw [← hM0]; rfl
    have hok0 : okV (upd V (10 + k) (-1)) n np := okV_u10 hok hk6
    obtain ⟨p, hp, ep⟩ := okV_at hok0 hi
    have eu : upd (VC M0.1 102) (32 + i) (nI p) = upd V (10 + k) (-1) := by rw [hV0]; exact upd_self _ ep
    have hD0 : M0.1 102 1 = nI d := by rw [← VC_0 M0.1 102 (by omega), hV0, upd_n _ _ (by omega)]; exact h1
    obtain ⟨M1, a1, a2, a3, a4, a5⟩ := c_spreadFrom (M := M0) (p := p) (n := n) (np := np) hd1 hd hi hT hp (by rw [eu]; exact hok0) hD0 (by rw [f02]; exact hP)
    rw [eu] at a3 a5
    have hsq : M0.1 (102 + 6) i = nI p := by rw [← VC_6 M0.1 102 h4, hV0]; exact ep
    have htk : M.1 (102 + 2) k = V (10 + k) := by rw [← VC_2 M.1 102 hk6, hV]
    generalize hM2 : sI M1 (102 + 2) k (V (10 + k)) = M2
    have hV2 : VC M2.1 102 = V := by
      rw [← hM2]
      show VC (up2 M1.1 (102 + 2) k (V (10 + k))) 102 = V
      rw [VC_u2 _ _ _ hk6, a3, upd_upd, upd_self _ rfl]
    have f2 : ∀ a, a ≠ 104 → M2.1 a = M1.1 a := fun a ha => by rw [← hM2, sI_o (by omega)]
    have f22 : M2.2 = M.2 := by rw [← hM2]; exact a2.trans f02
    have hL2 : M2.1 102 0 = nI l := by rw [← VC_0 M2.1 102 (by omega), hV2]; exact h0
    have hr : M2.1 116 l = nI (f k) := by
      rw [f2 116 (by omega), a5 l hl, SS_hq (by rw [upd_n _ _ (by omega)]; exact h0), ← hf]
    have k2 : frO M M2 := ⟨f22, fun a ha => by rw [f2 a (by omega), a4 a (by omega), f0 a (by omega)]⟩
    have e101 : M2.1 101 = M.1 101 := by rw [f2 101 (by omega), a4 101 (by omega), f0 101 (by omega)]
    show ∃ M', bX5_findWorstLink_21 (fX5_findWorstLink_21 F) 101 (nI i) (nI T) (nI k) (lay M) = _ ∧ _
    unfold bX5_findWorstLink_21 fX5_findWorstLink_108
    rw [r_101_0, Option.bind_some, bi2 brd_102, Option.bind_some, hN, if_neg (nI_ge (by omega) (by omega)), Option.bind_some, br5 brd_102, Option.bind_some, ba2 brd_102 hk6, Option.bind_some, Option.bind_some, br5 brd_102, Option.bind_some, bs2 brd_102 hk6, Option.bind_some, hM0, r_101_0, Option.bind_some, br9 brd_102, Option.bind_some, ba6 brd_102 h4, Option.bind_some, hsq, a1, gx_bd_some, r_101_0, Option.bind_some, br5 brd_102, Option.bind_some, htk, bs2 brd_102 hk6, Option.bind_some, hM2, c_rowsHome hl hL2, gx_bd_some, i_101_7, Option.bind_some, hr, e101, e7, nI_1]
    have hs := ws_s (f := f) (p := k) hfb (by omega)
    by_cases c : nI (f k) ≤ cB2 (ws f k)
    · rw [if_pos c] at hs
      rw [if_pos c]
      subst hf
      obtain ⟨M3, b1, b2, b3, b4⟩ := c_worst_21 hd1 hd hi hT hl hok h0 h1 m (k + 1) F M2 (by omega) (by omega) hV2 (by rw [f22]; exact hP) (by rw [hs, e101]; exact e6) (by rw [hs, e101]; exact e7)
      exact ⟨M3, b1, k2.tr b2, b3, b4⟩
    · rw [if_neg c] at hs
      rw [if_neg c, pi_101_6, Option.bind_some, c_rowsHome hl (by rw [sI_o (by omega)]; exact hL2), gx_bd_some, pi_101_7, Option.bind_some, sI_o (show 116 ≠ 101 by omega), hr]
      subst hf
      obtain ⟨M3, b1, b2, b3, b4⟩ := c_worst_21 hd1 hd hi hT hl hok h0 h1 m (k + 1) F (sI (sI M2 101 6 (nI k)) 101 7 (nI (SS d n (fun _ => i) (Fh i) T (upd V (10 + k) (-1))))) (by omega) (by omega) (by
        show VC (up2 (up2 M2.1 101 6 (nI k)) 101 7 _) 102 = _
        rw [VC_out _ _ (by omega), VC_out _ _ (by omega)]; exact hV2) (by show ∀ j, j < 5 → M2.2.2 110 j = _; rw [f22]; exact hP) (by rw [hs, sI_n (by omega), sI_s]; rfl) (by rw [hs, sI_s]; rfl)
      exact ⟨M3, b1, k2.tr ((frO.p67 (M := M2)).tr b2), b3, b4⟩
theorem r_without_70 {M0 : mm} {k : Nat} {v3 v4 v5 : Int32} (hd1 : 2 ≤ d) (hd : d ≤ 6) (hi : i < np) (hT : T ≤ 5) (hk6 : k < 6) (hD : M0.1 123 1 = nI d) (hn : n ≤ 6) (hp4 : np ≤ 4) (hok : okV (upd V (10 + k) (-1)) n np) (he : eqv n np V (VR M0.1 0)) (k53 : Nat → Int32 → Int32 → Int32 → Int32 → Int32 → Int32 → Int32 → gx_H → Option (Int32 × gx_H)) : ∀ (m x F : Nat) (M : mm), x + m = d ^ T → m < F → frW 812 852 M0 M → ∃ M', frW 812 852 M0 M' ∧ fX11_without_70 k53 F 122 (nI i) (nI T) v3 v4 v5 (nI (d ^ T)) (nI k) (nI (sm (fun x => Fh i (plP d n (fun _ => i) T x (upd V (10 + k) (-1)))) x)) (nI x) (lay M) = k53 122 (nI i) (nI T) v3 (if nI (SS d n (fun _ => i) (Fh i) T (upd V (10 + k) (-1))) ≤ v5 then v4 else nI k) (if nI (SS d n (fun _ => i) (Fh i) T (upd V (10 + k) (-1))) ≤ v5 then v5 else nI (SS d n (fun _ => i) (Fh i) T (upd V (10 + k) (-1)))) (nI (d ^ T)) (nI (k + 1)) (lay M')
  | m, x, 0, M, _, hF, _ => by omega
  | 0, x, F + 1, M, hx, _, hf => by
    have hpw := pow_bd hd hT
    have e : x = d ^ T := by omega
    rw [e]
    show ∃ M', _ ∧ bX11_without_70 k53 (fX11_without_70 k53 F) 122 (nI i) (nI T) v3 v4 v5 (nI (d ^ T)) (nI k) (nI (SS d n (fun _ => i) (Fh i) T (upd V (10 + k) (-1)))) (nI (d ^ T)) (lay M) = _
    unfold bX11_without_70 fX11_without_142 fX11_without_158
    rw [if_pos (nI_le (by omega) (by omega)), nI_1]
    refine ⟨M, hf, ?_⟩
    by_cases c : nI (SS d n (fun _ => i) (Fh i) T (upd V (10 + k) (-1))) ≤ v5
    · simp only [if_pos c]
    · simp only [if_neg c]
  | m + 1, x, F + 1, M, hx, hF, hf => by
    have hpw := pow_bd hd hT
    have h4 : i < 4 := by omega
    have hD' : M.1 123 1 = nI d := by rw [hf.lo (by omega)]; exact hD
    show ∃ M', _ ∧ bX11_without_70 k53 (fX11_without_70 k53 F) 122 (nI i) (nI T) v3 v4 v5 (nI (d ^ T)) (nI k) (nI (sm (fun x => Fh i (plP d n (fun _ => i) T x (upd V (10 + k) (-1)))) x)) (nI x) (lay M) = _
    unfold bX11_without_70 fX11_without_119
    obtain ⟨M1, M2, a1, a2, a3, a4⟩ := r_tpU (M := M) (x := x) (V := V) (j := 10 + k) (y := -1) hd1 hd hi hT (by omega) (by omega) (by omega) hD' hn hp4 hok (hf.V0 hn hp4 he)
    rw [show 812 + (10 + k) = 822 + k by omega] at a2
    rw [if_neg (nI_ge (by omega) (by omega)), a1, gx_bd_some, r_122_0, Option.bind_some, show (822 : Int32) = nI 822 from rfl, nI_add, rs (by omega), Option.bind_some, a2, gx_bd_some, r_hm hi hp4 a3, gx_bd_some, nI_1]
    have ih := r_without_70 (M0 := M0) (k := k) (v3 := v3) (v4 := v4) (v5 := v5) hd1 hd hi hT hk6 hD hn hp4 hok he k53 m (x + 1) F M2 (by omega) (by omega) (hf.tr a4)
    rw [show sm (fun x => Fh i (plP d n (fun _ => i) T x (upd V (10 + k) (-1)))) (x + 1) = sm (fun x => Fh i (plP d n (fun _ => i) T x (upd V (10 + k) (-1)))) x + Fh i (plP d n (fun _ => i) T x (upd V (10 + k) (-1))) from rfl] at ih
    by_cases c : plP d n (fun _ => i) T x (upd V (10 + k) (-1)) (32 + i) = plP d n (fun _ => i) T x (upd V (10 + k) (-1)) 0
    · rw [show Fh i (plP d n (fun _ => i) T x (upd V (10 + k) (-1))) = 1 from if_pos c] at ih
      rw [b2_t c, if_neg (by decide), nI_1]
      exact ih
    · rw [show Fh i (plP d n (fun _ => i) T x (upd V (10 + k) (-1))) = 0 from if_neg c, Nat.add_zero] at ih
      rw [b2_f c, if_pos (show (0 : Int32) = 0 from rfl), Int32.add_zero]
      exact ih
theorem r_without_53 {M0 : mm} {v3 : Int32} (hd1 : 2 ≤ d) (hd : d ≤ 6) (hi : i < np) (hT : T ≤ 5) (hD : M0.1 123 1 = nI d) (hN : M0.1 123 2 = nI n) (hok : okV V n np) (he : eqv n np V (VR M0.1 0)) : ∀ (m k F : Nat) (M : mm), k + m = n → m < F → frW 812 852 M0 M → ∃ M', frW 812 852 M0 M' ∧ fX11_without_53 F 122 (nI i) (nI T) v3 (cB1 (ws (fun k => SS d n (fun _ => i) (Fh i) T (upd V (10 + k) (-1))) k)) (cB2 (ws (fun k => SS d n (fun _ => i) (Fh i) T (upd V (10 + k) (-1))) k)) (nI (d ^ T)) (nI k) (lay M) = some (if v3 = 0 then cB1 (ws (fun k => SS d n (fun _ => i) (Fh i) T (upd V (10 + k) (-1))) n) else cB2 (ws (fun k => SS d n (fun _ => i) (Fh i) T (upd V (10 + k) (-1))) n), lay M')
  | m, k, 0, M, _, hF, _ => by omega
  | 0, k, F + 1, M, hk, _, hf => by
    have hn := hok.2.1
    have e : k = n := by omega
    show ∃ M', _ ∧ bX11_without_53 (fX11_without_53 F) 122 (nI i) (nI T) v3 _ _ (nI (d ^ T)) (nI k) (lay M) = _
    rw [e]
    generalize ws (fun k => SS d n (fun _ => i) (Fh i) T (upd V (10 + k) (-1))) n = o
    unfold bX11_without_53 fX11_without_177
    rw [r_122_0, Option.bind_some, show gx_aI 0 (lay M) 123 2 = some (M.1 123 2) from ra (k := 2) (by omega), Option.bind_some, hf.lo (by omega), hN, if_pos (nI_le (by omega) (by omega))]
    refine ⟨M, hf, ?_⟩
    by_cases c : v3 = 0
    · rw [if_pos c, if_pos c]
    · rw [if_neg c, if_neg c]
  | m + 1, k, F + 1, M, hk, hF, hf => by
    have hpw := pow_bd hd hT
    have hn := hok.2.1
    have hp4 := hok.2.2.2.1
    show ∃ M', _ ∧ bX11_without_53 (fX11_without_53 F) 122 (nI i) (nI T) v3 _ _ (nI (d ^ T)) (nI k) (lay M) = _
    have hfb : ∀ k, (fun k => SS d n (fun _ => i) (Fh i) T (upd V (10 + k) (-1))) k ≤ 7776 := fun k => by
      have := SS_h1 (d := d) (n := n) (i := i) (T := T) (V := upd V (10 + k) (-1))
      show SS d n (fun _ => i) (Fh i) T (upd V (10 + k) (-1)) ≤ _
      omega
    have hs := ws_s (f := fun k => SS d n (fun _ => i) (Fh i) T (upd V (10 + k) (-1))) (p := k) hfb (by omega)
    try dsimp only at hs
    unfold bX11_without_53
    rw [r_122_0, Option.bind_some, show gx_aI 0 (lay M) 123 2 = some (M.1 123 2) from ra (k := 2) (by omega), Option.bind_some, hf.lo (by omega), hN, if_neg (nI_ge (by omega) (by omega))]
    obtain ⟨M1, a1, a2⟩ := r_without_70 (M0 := M0) (V := V) (k := k) (v3 := v3) (v4 := cB1 (ws (fun k => SS d n (fun _ => i) (Fh i) T (upd V (10 + k) (-1))) k)) (v5 := cB2 (ws (fun k => SS d n (fun _ => i) (Fh i) T (upd V (10 + k) (-1))) k)) hd1 hd hi hT (by omega) hD hn hp4 (okV_u10 hok (by omega)) he (fX11_without_53 F) (d ^ T) 0 gx_N M (by omega) (by unfold gx_N; omega) hf
    have a2' : fX11_without_70 (fX11_without_53 F) gx_N 122 (nI i) (nI T) v3 (cB1 (ws (fun k => SS d n (fun _ => i) (Fh i) T (upd V (10 + k) (-1))) k)) (cB2 (ws (fun k => SS d n (fun _ => i) (Fh i) T (upd V (10 + k) (-1))) k)) (nI (d ^ T)) (nI k) 0 0 (lay M) = _ := a2
    rw [a2']
    obtain ⟨M2, b1, b2⟩ := r_without_53 (v3 := v3) hd1 hd hi hT hD hN hok he m (k + 1) F M1 (by omega) (by omega) a1
    refine ⟨M2, b1, ?_⟩
    rw [hs] at b2
    rw [← b2]
    by_cases c : nI (SS d n (fun _ => i) (Fh i) T (upd V (10 + k) (-1))) ≤ cB2 (ws (fun k => SS d n (fun _ => i) (Fh i) T (upd V (10 + k) (-1))) k)
    · simp only [if_pos c]
    · simp only [if_neg c]
      rfl
end WO
theorem op_without (a b c : Int32) : Op (fX10_without 0 a b c) (fX11_without 122 a b c) := by
  intro M h
  obtain ⟨n, np, hs, q, g⟩ := h.gm
  have hn6 := g.n6
  have hp4 := g.np6
  unfold fX10_without fX11_without fX10_without_26 fX11_without_30 fX10_without_70
  simp only [o_0, o_122, r_0_0, r_0_4, r_1_0, f10_isPlayer, f11_isPlayer, f10_within, f11_in, Option.bind_some, gx_bd_some, f10_bad, f11_bad', show (0 : Int64) = (0 : Int32).toInt64 from rfl, show (4 : Int64) = (4 : Int32).toInt64 from rfl, show (1 : Int64) = (1 : Int32).toInt64 from rfl, b_le]
  have eB : (badC M).1 123 = M.1 123 := by unfold badC; rw [sI_o (by omega)]
  by_cases c1 : 0 ≤ a ∧ a ≤ M.1 2 3 - 1
  case neg =>
    rw [b2_f c1, if_pos rfl]
    refine ⟨_, badC M, badR (badC M), rfl, ?_, h.bad⟩
    rw [eB, b2_f (fun z => c1 ((g.pl _).mp z)), if_pos rfl]
  rw [b2_t c1, if_neg (by decide)]
  have c1' := (g.pl _).mpr c1
  by_cases c2 : 1 ≤ b ∧ b ≤ 4
  case neg =>
    rw [b2_f c2, if_pos rfl]
    refine ⟨_, badC M, badR (badC M), rfl, ?_, h.bad⟩
    rw [eB, b2_t c1', if_neg (by decide), if_pos rfl]
  rw [b2_t c2, if_neg (by decide)]
  by_cases c3 : 0 ≤ c ∧ c ≤ 1
  case neg =>
    rw [b2_f c3, if_pos rfl]
    refine ⟨_, badC M, badR (badC M), rfl, ?_, h.bad⟩
    rw [eB, b2_t c1', if_neg (by decide), if_neg (by decide), if_pos rfl]
  rw [b2_t c3, if_neg (by decide)]
  obtain ⟨i, hi, rfl⟩ := g.isP c1
  obtain ⟨T, hT1, hT, rfl⟩ := in_n (a := 1) (b := 4) (by omega) c2 (by omega)
  have hD := g.D
  obtain ⟨d, hd, ed⟩ := bn_nI (x := M.1 2 1) (n := 6) ⟨by have := hD.1; omega, hD.2⟩
  have hd1 : 2 ≤ d := by have := hD.1; rw [ed, nI_toInt (by omega)] at this; omega
  have hL := g.L
  obtain ⟨l, hl, el⟩ := bn_nI (x := M.1 2 0) (n := 40) ⟨by have := hL.1; omega, hL.2⟩
  obtain ⟨M1, a1, a2, a3, a4, a5, a6, a7, a8⟩ := c_out g.1
  generalize hV : VC M1.1 102 = V at a3 a4
  have hV0 : V 0 = nI l := by rw [a4.1, VC_0 _ _ (by omega)]; exact el
  have hV1 : V 1 = nI d := by rw [a4.2.1, VC_0 _ _ (by omega)]; exact ed
  obtain ⟨Ma, b1, b2, b3, b4⟩ := c_worst_21 (V := V) (T := T) hd1 hd hi (by omega) hl a3 hV0 hV1 n 0 gx_N (sI (sI M1 101 6 (-1)) 101 7 (-1)) (by omega) (by unfold gx_N; omega) (by
    show VC (up2 (up2 M1.1 101 6 _) 101 7 _) 102 = _
    rw [VC_out _ _ (by omega), VC_out _ _ (by omega), hV]) (by show ∀ j, j < 5 → M1.2.2 110 j = _; rw [a2.1]; exact h.2.2.2.2.2.2.1) (by rw [sI_n (by omega), sI_s]; rfl) (by rw [sI_s]; rfl)
  have kO : frO M Ma := ⟨b2.1.trans a2.1, fun a ha => by rw [b2.2 a ha, sI_o (by omega), sI_o (by omega), a2.2 a (fun z => by unfold inB at z; omega)]⟩
  have b1' : fX5_findWorstLink_21 gx_N 101 (nI i) (nI T) 0 (lay (sI (sI M1 101 6 (-1)) 101 7 (-1))) = some ((), lay Ma) := b1
  have hcl : fX5_findWorstLink 101 2 (nI i) (nI T) (lay M) = some ((), lay Ma) := by
    unfold fX5_findWorstLink
    rw [o_101, Option.bind_some, r_101_0, Option.bind_some, a1, gx_bd_some, pi_101_6, Option.bind_some, pi_101_7, Option.bind_some]
    exact b1'
  have e123 : Ma.1 123 = M.1 123 := kO.2 123 (by omega)
  have h1 := h.kp (frO_kp kO)
  have he : eqv n np V (VR Ma.1 0) := by
    have : VR Ma.1 0 = VR M.1 0 := by unfold VR; rw [e123]
    rw [this]
    exact eqv_tr a4 g.2.1
  have hD1 : Ma.1 123 1 = nI d := by rw [e123, g.w1]; exact ed
  have hN1 : Ma.1 123 2 = nI n := by rw [e123, g.w2]; exact g.nn
  obtain ⟨Mb, x1, x2⟩ := r_without_53 (M0 := Ma) (V := V) (T := T) (v3 := c) hd1 hd hi (by omega) hD1 hN1 a3 he n 0 gx_N Ma (by omega) (by unfold gx_N; omega) frW.rf
  have x2' : fX11_without_53 gx_N 122 (nI i) (nI T) c (-1) (-1) (nI (d ^ T)) 0 (lay Ma) = _ := x2
  rw [hcl, gx_bd_some]
  simp only [r_0_0, r_0_4, r_1_0, Option.bind_some]
  refine ⟨_, Ma, Mb, ?_, by rw [e123, b2_t c1', if_neg (by decide), if_neg (by decide), if_neg (by decide), r_rowsOf hD1 (by omega), gx_bd_some, x2'], h1.kp (x1.kp (by omega))⟩
  rw [i_101_6, i_101_7, Option.bind_some, Option.bind_some, b3, b4]
  by_cases y : c = 0
  · rw [if_pos y, if_pos y]
  · rw [if_neg y, if_neg y]
