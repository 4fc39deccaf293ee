/-! an item, whichever; the whole text; the call -/
section RD
variable {t : Nat} {tx : Nat → Int32}
def LQ (t : Nat) (tx : Nat → Int32) (M N : mm) (s : Nat) : Prop := okT t tx ∧ CT M t tx ∧ RT N t tx ∧ s ≤ t ∧ M.1 90 4 = kd t tx s ∧ M.1 90 5 = nI s ∧ M.1 90 6 = nI (en t tx s) ∧ N.1 122 7 = nI s ∧ N.1 122 8 = nI s ∧ bl t tx s = s
theorem r_takesWord {N : mm} {s : Nat} (hT : okT t tx) (hr : RT N t tx) (hs : s ≤ t) (h7 : N.1 122 7 = nI s) (hb : bl t tx s = s) : ∃ N', fX11_takesWord 122 (lay N) = some ((), lay N') ∧ F9 N N' ∧ N'.1 122 7 = nI (le t tx s) ∧ N'.1 122 8 = nI s := by
  have h150 := hT.1
  obtain ⟨N1, a1, a2, a3, a4⟩ := r_blanks hT hs hr h7
  have hb' : run t tx 32 32 s = s := hb
  rw [hb'] at a3 a4
  obtain ⟨N2, b1, b2, b3, b4⟩ := r_letters hT (t - s) s gx_N N1 (by omega) (by unfold gx_N; omega) (hr.f9 a2) a3
  refine ⟨N2, ?_, a2.tr b2, b3, by rw [b4]; exact a4⟩
  unfold fX11_takesWord
  rw [o_122, Option.bind_some, a1, gx_bd_some, b1]
theorem IR.ret {M N : mm} {p : Nat} {fc fm : Option (Int32 × gx_H)} (h : IR t tx M N p fc fm) : IR t tx M N p (gx_bd fc fun x h => gx_ret .boolean x h) fm := by
  obtain ⟨ok, M', N', a1, a2, a3⟩ := h
  refine ⟨ok, M', N', ?_, a2, a3⟩
  rw [a1, gx_bd_some, ret_bI]
theorem IR.ret2 {M N : mm} {p : Nat} {fc fm : Option (Int32 × gx_H)} (h : IR t tx M N p fc fm) : IR t tx M N p (gx_bd fc fun x h => if x = 0 then fX9_laterItem_62 h else fX9_laterItem_63 (1 : Int32) h) fm := by
  obtain ⟨ok, M', N', a1, a2, a3⟩ := h
  refine ⟨ok, M', N', ?_, a2, a3⟩
  rw [a1, gx_bd_some]
  cases ok with
  | true => rw [if_neg (show ¬ bI true = 0 by decide)]; rfl
  | false => rw [if_pos (show bI false = 0 from rfl)]; rfl
theorem laterI {M N : mm} {s n np : Nat} (h : LQ t tx M N s) (hok : okV (VC M.1 91) n np) (he : eqv n np (VC M.1 91) (VR N.1 609)) : IR t tx M N s (fX9_laterItem 90 (lay M)) (fX11_readsItem 122 0 (lay N)) := by
  obtain ⟨hT, hC, hR, hs, h4, h5, h6, h7, h8, hb⟩ := h
  have h150 := hT.1
  obtain ⟨N1, a1, a2, a3, a4⟩ := r_takesWord hT hR hs h7 hb
  have hL := run_ge (tx := tx) (lo := 97) (hi := 122) hs
  have hL2 : le t tx s ≤ t := hL.2
  have hw := r_wordOf (hR.f9 a2) h150 hs a4 a3
  have e1 : fX9_isWord 90 1 (lay M) = _ := c_isWord isW_1 (by decide) (by decide) hC h150 hs h4 h5 h6
  have e2 : fX9_isWord 90 2 (lay M) = _ := c_isWord isW_2 (by decide) (by decide) hC h150 hs h4 h5 h6
  have e3 : fX9_isWord 90 3 (lay M) = _ := c_isWord isW_3 (by decide) (by decide) hC h150 hs h4 h5 h6
  have e4 : fX9_isWord 90 4 (lay M) = _ := c_isWord isW_4 (by decide) (by decide) hC h150 hs h4 h5 h6
  have hPS : s < le t tx s → PS t tx M N1 (le t tx s) n np := fun z => ⟨hT, hC, hR.f9 a2, hL2, by rw [h6, en_1 hs z], a3, by rw [h5, a4], hok, by rw [a2.V]; exact he⟩
  unfold fX9_laterItem fX11_readsItem
  rw [o_90, Option.bind_some, e1, gx_bd_some, o_122, Option.bind_some, a1, gx_bd_some, hw, gx_bd_some]
  unfold wc
  by_cases zB : wq t tx s wB = true
  · rw [if_pos zB, if_pos (show (1 : Int32) = 1 from rfl)]
    rw [if_pos (bI_0.mpr (wq_B (by decide) (by decide) zB)), e2, gx_bd_some, if_pos (bI_0.mpr (wq_B (by decide) (by decide) zB)), e3, gx_bd_some, if_pos (bI_0.mpr (wq_B (by decide) (by decide) zB)), e4, gx_bd_some, if_pos (bI_0.mpr (wq_B (by decide) (by decide) zB))]
    unfold fX9_laterItem_62 fX9_laterItem_63 fX11_readsItem_20
    rw [if_neg (show ¬ (0 : Int32) = 1 by decide)]
    exact IR.no rfl rfl FC.rf a2.R (by rw [h5, a4])
  rw [if_neg zB]
  by_cases z1 : wq t tx s wL = true
  · have hlt := (wq_c (by decide) z1).2
    rw [if_pos z1, if_neg (show ¬ (2 : Int32) = 1 by decide), if_neg (fun y => bI_0.mp y z1)]
    unfold fX11_readsItem_20
    rw [if_pos (show (0 : Int32) = 0 from rfl), if_neg (show ¬ (2 : Int32) = 1 by decide), if_pos (show (2 : Int32) = 2 from rfl)]
    exact IR.mono FC.rf a2.R (by omega) (linkI (hPS hlt)).ret
  rw [if_neg z1, if_pos (bI_0.mpr z1), e2, gx_bd_some]
  by_cases z2 : wq t tx s wP = true
  · have hlt := (wq_c (by decide) z2).2
    rw [if_pos z2, if_neg (show ¬ (3 : Int32) = 1 by decide), if_neg (fun y => bI_0.mp y z2)]
    unfold fX11_readsItem_20
    rw [if_pos (show (0 : Int32) = 0 from rfl), if_neg (show ¬ (3 : Int32) = 1 by decide), if_neg (show ¬ (3 : Int32) = 2 by decide), if_pos (show (3 : Int32) = 3 from rfl)]
    exact IR.mono FC.rf a2.R (by omega) (playerI (hPS hlt)).ret
  rw [if_neg z2, if_pos (bI_0.mpr z2), e3, gx_bd_some]
  by_cases z3 : wq t tx s wS = true
  · have hlt := (wq_c (by decide) z3).2
    rw [if_pos z3, if_neg (show ¬ (4 : Int32) = 1 by decide), if_neg (fun y => bI_0.mp y z3)]
    unfold fX11_readsItem_20
    rw [if_pos (show (0 : Int32) = 0 from rfl), if_neg (show ¬ (4 : Int32) = 1 by decide), if_neg (show ¬ (4 : Int32) = 2 by decide), if_neg (show ¬ (4 : Int32) = 3 by decide), if_pos (show (4 : Int32) = 4 from rfl)]
    exact IR.mono FC.rf a2.R (by omega) (setI (hPS hlt)).ret
  rw [if_neg z3, if_pos (bI_0.mpr z3), e4, gx_bd_some]
  by_cases z4 : wq t tx s wT = true
  · have hlt := (wq_c (by decide) z4).2
    rw [if_pos z4, if_neg (show ¬ (5 : Int32) = 1 by decide), if_neg (fun y => bI_0.mp y z4)]
    unfold fX11_readsItem_20
    rw [if_pos (show (0 : Int32) = 0 from rfl), if_neg (show ¬ (5 : Int32) = 1 by decide), if_neg (show ¬ (5 : Int32) = 2 by decide), if_neg (show ¬ (5 : Int32) = 3 by decide), if_neg (show ¬ (5 : Int32) = 4 by decide), if_pos (show (5 : Int32) = 5 from rfl)]
    exact IR.mono FC.rf a2.R (by omega) (throwI (hPS hlt)).ret2
  rw [if_neg z4, if_neg (show ¬ (0 : Int32) = 1 by decide), if_pos (bI_0.mpr z4)]
  unfold fX11_readsItem_20 fX11_readsItem_89 fX9_laterItem_62 fX9_laterItem_63
  rw [if_pos (show (0 : Int32) = 0 from rfl), if_neg (show ¬ (0 : Int32) = 1 by decide), if_neg (show ¬ (0 : Int32) = 2 by decide), if_neg (show ¬ (0 : Int32) = 3 by decide), if_neg (show ¬ (0 : Int32) = 4 by decide), if_neg (show ¬ (0 : Int32) = 5 by decide), RI0]
  exact IR.no rfl rfl FC.rf a2.R (by rw [h5, a4])
theorem firstI {M N : mm} {s : Nat} (h : LQ t tx M N s) (hz : N.1 123 611 = 0 ∧ N.1 123 612 = 0) : IR t tx M N s (fX9_boardItem 90 (lay M)) (fX11_readsItem 122 1 (lay N)) := by
  obtain ⟨hT, hC, hR, hs, h4, h5, h6, h7, h8, hb⟩ := h
  have h150 := hT.1
  obtain ⟨N1, a1, a2, a3, a4⟩ := r_takesWord hT hR hs h7 hb
  have hL := run_ge (tx := tx) (lo := 97) (hi := 122) hs
  have hL2 : le t tx s ≤ t := hL.2
  have hw := r_wordOf (hR.f9 a2) h150 hs a4 a3
  have e0 : fX9_isWord 90 0 (lay M) = _ := c_isWord isW_0 (by decide) (by decide) hC h150 hs h4 h5 h6
  unfold fX9_boardItem fX11_readsItem
  rw [o_90, Option.bind_some, e0, gx_bd_some, o_122, Option.bind_some, a1, gx_bd_some, hw, gx_bd_some]
  by_cases zB : wq t tx s wB = true
  · have hlt := (wq_c (by decide) zB).2
    rw [show wc t tx s = 1 from if_pos zB, if_pos (show (1 : Int32) = 1 from rfl), if_neg (fun y => bI_0.mp y zB)]
    unfold fX11_readsItem_20
    rw [if_pos (show (1 : Int32) = 1 from rfl), if_pos (show (1 : Int32) = 1 from rfl)]
    exact IR.mono FC.rf a2.R (show s ≤ le t tx s by omega) (boardI ⟨hT, hC, hR.f9 a2, hL2, by rw [h6, en_1 hs hlt], a3, by rw [h5, a4]⟩ (by rw [a2.2.1 123 (by omega)]; exact hz))
  · have hwc : ¬ wc t tx s = 1 := by
      unfold wc
      rw [if_neg zB]
      split
      · decide
      · split
        · decide
        · split
          · decide
          · split
            · decide
            · decide
    rw [if_neg hwc, if_pos (bI_0.mpr zB)]
    unfold fX11_readsItem_20 fX9_boardItem_20
    rw [if_neg (show ¬ (1 : Int32) = 0 by decide)]
    exact IR.no rfl rfl FC.rf a2.R (by rw [h5, a4])
def RJ (M N : mm) (fc fm : Option (Int32 × gx_H)) : Prop := ∃ M' N', FC M M' ∧ FR N N' ∧ ((∃ k n np, k ≤ 1000 ∧ fc = some (nI k, lay M') ∧ fm = (gx_bd (fX11_copy 122 609 0 (lay N')) fun _ h => some (nI k, h)) ∧ okV (VC M'.1 91) n np ∧ eqv n np (VC M'.1 91) (VR N'.1 609)) ∨ (fc = some (-1, lay M') ∧ fm = some (-10 - M'.1 90 5, lay N')))
theorem RJ.mono {M M1 N N1 : mm} {fc fm : Option (Int32 × gx_H)} (f : FC M M1) (g : FR N N1) (h : RJ M1 N1 fc fm) : RJ M N fc fm := by
  obtain ⟨M', N', a1, a2, a3⟩ := h
  exact ⟨M', N', f.tr a1, g.tr a2, a3⟩
theorem r_fail (N : mm) (v1 : Int32) (F : Nat) : fX11_read_20 (F + 1) 122 v1 0 (lay N) = some (-10 - N.1 122 8, lay N) := by
  show bX11_read_20 (fX11_read_20 F) 122 v1 0 (lay N) = _
  unfold bX11_read_20 fX11_read_67
  rw [if_pos (show (0 : Int32) = 0 from rfl), if_pos (show (0 : Int32) = 0 from rfl), i_122_8, Option.bind_some]
/-- after an item: the next token, the blanks -/
theorem goOn {M N : mm} {p n np : Nat} (h : PS t tx M N p n np) : ∃ M' N', fX9_nextToken 90 (lay M) = some ((), lay M') ∧ fX11_blanks 122 (lay N) = some ((), lay N') ∧ F4 M M' ∧ F9 N N' ∧ LQ t tx M' N' (bl t tx p) ∧ p ≤ bl t tx p ∧ okV (VC M'.1 91) n np ∧ eqv n np (VC M'.1 91) (VR N'.1 609) := by
  obtain ⟨hT, hc, hr, hp, h6, h7, h58, hok, he⟩ := h
  obtain ⟨M1, a1, a2, a3, a4, a5, a6⟩ := c_token hT hc hp h6
  obtain ⟨N1, b1, b2, b3, b4⟩ := r_blanks hT hp hr h7
  have hs := run_ge (tx := tx) (lo := 32) (hi := 32) hp
  exact ⟨M1, N1, a1, b1, a2, b2, ⟨hT, hc.f4 a2, hr.f9 b2, hs.2, a4, a3, a5, b3, b4, bl_bl hp⟩, hs.1, by rw [a2.V]; exact hok, by rw [a2.V, b2.V]; exact he⟩
theorem readL : ∀ (F k s F' : Nat) (M N : mm) (n np : Nat), t - s < F → t - s + 1 < F' → LQ t tx M N s → okV (VC M.1 91) n np → eqv n np (VC M.1 91) (VR N.1 609) → 1 ≤ k → k ≤ s → RJ M N (fX9_readItems_24 F 90 (nI k) (lay M)) (fX11_read_20 F' 122 (nI k) 1 (lay N))
  | 0, k, s, F', M, N, n, np, hF, _, _, _, _, _, _ => by omega
  | F + 1, k, s, 0, M, N, n, np, _, hF', _, _, _, _, _ => by omega
  | F + 1, k, s, F' + 1, M, N, n, np, hF, hF', h, hok, he, hk1, hks => by
    have h' := h
    obtain ⟨hT, hC, hR, hs, h4, h5, h6, h7, h8, hb⟩ := h'
    have h150 := hT.1
    show RJ M N (bX9_readItems_24 (fX9_readItems_24 F) 90 (nI k) (lay M)) (bX11_read_20 (fX11_read_20 F') 122 (nI k) 1 (lay N))
    unfold bX9_readItems_24 bX11_read_20 fX9_readItems_57
    rw [i_90_4, Option.bind_some, h4, if_neg (show ¬ (1 : Int32) = 0 by decide), i_122_8, Option.bind_some, h8, i_122_3, Option.bind_some, hR.1]
    by_cases ce : t ≤ s
    · rw [if_pos (kd_0.mpr ce), if_neg (show ¬ nI s < nI t from by rw [t_lt, nI_toInt (by omega), nI_toInt (by omega)]; omega), if_neg (nz (by omega) (by omega))]
      unfold fX11_read_67
      rw [if_neg (show ¬ (1 : Int32) = 0 by decide)]
      exact ⟨M, N, FC.rf, FR.rf, Or.inl ⟨k, n, np, by omega, rfl, rfl, hok, he⟩⟩
    rw [if_neg (fun z => ce (kd_0.mp z)), if_neg (show ¬ (150 : Int32) < nI k from by rw [show (150 : Int32) = nI 150 from rfl, t_lt, nI_toInt (by omega), nI_toInt (by omega)]; omega), if_pos (nI_lt (by omega) (by omega))]
    unfold fX11_read_39 fX11_read_49
    rw [if_neg (nz (by omega) (by omega))]
    obtain ⟨ok, M1, N1, a1, a2, a3, a4, a5, a6⟩ := laterI h hok he
    rw [a1, gx_bd_some, a2, gx_bd_some]
    cases ok with
    | false =>
      rw [if_pos (show bI false = 0 from rfl), if_pos (show bI false = 0 from rfl)]
      obtain ⟨F'', rfl⟩ : ∃ F'', F' = F'' + 1 := ⟨F' - 1, by omega⟩
      refine ⟨M1, N1, a3, a4, Or.inr ⟨rfl, ?_⟩⟩
      rw [show bI false = 0 from rfl, r_fail, a5]
    | true =>
      rw [if_neg (show ¬ bI true = 0 by decide), if_neg (show ¬ bI true = 0 by decide)]
      obtain ⟨p', n', np', hp', hPS⟩ := a6 rfl
      obtain ⟨M2, N2, b1, b2, b3, b4, b5, b6, b7, b8⟩ := goOn hPS
      rw [b1, gx_bd_some, b2, gx_bd_some, nI_1, show bI true = 1 from rfl]
      have hpt := hPS.2.2.2.1
      exact RJ.mono (a3.tr b3.C) (a4.tr b4.R) (readL F (k + 1) (bl t tx p') F' M2 N2 n' np' (by omega) (by omega) b5 b7 b8 (by omega) (by omega))
theorem readW {M N : mm} (hT : okT t tx) (hC : CT M t tx) (hR : RT N t tx) : ∃ N0, frW 609 812 N N0 ∧ (∀ j, j < 203 → N0.1 123 (609 + j) = 0) ∧ RJ M N0 (fX9_readItems 90 (lay M)) (fX11_read 122 (lay N)) := by
  have h150 := hT.1
  obtain ⟨N0, z1, z2, z3⟩ := r_empties (r := 609) (by omega) N
  have z1' : fX11_empties 122 609 (lay N) = some ((), lay N0) := z1
  refine ⟨N0, z2, z3, ?_⟩
  have hR0 : RT N0 t tx := ⟨by rw [z2.2.1 122 (by omega)]; exact hR.1, fun k hk => by rw [z2.2.1 125 (by omega)]; exact hR.2 k hk⟩
  unfold fX9_readItems fX11_read
  rw [o_90, Option.bind_some, pi_90_6, Option.bind_some, o_122, Option.bind_some, z1', gx_bd_some, pi_122_7, Option.bind_some]
  have f0 : F4 M (sI M 90 6 0) := F4.put (by omega)
  have g0 : F9 N0 (sI N0 122 7 0) := F9.put (by omega)
  obtain ⟨M1, a1, a2, a3, a4, a5, a6⟩ := c_token (p := 0) hT (hC.f4 f0) (by omega) (by rw [sI_s]; rfl)
  obtain ⟨N1, b1, b2, b3, b4⟩ := r_blanks (p := 0) hT (by omega) (hR0.f9 g0) (by rw [sI_s]; rfl)
  rw [a1, gx_bd_some, b1, gx_bd_some]
  have hs := run_ge (tx := tx) (lo := 32) (hi := 32) (show 0 ≤ t by omega)
  have hLS : LQ t tx M1 N1 (bl t tx 0) := ⟨hT, (hC.f4 f0).f4 a2, (hR0.f9 g0).f9 b2, hs.2, a4, a3, a5, b3, b4, bl_bl (by omega)⟩
  have e123 : N1.1 123 = N0.1 123 := (g0.tr b2).2.1 123 (by omega)
  refine RJ.mono (f0.tr a2).C (g0.tr b2).R ?_
  obtain ⟨ok, M2, N2, c1, c2, c3, c4, c5, c6⟩ := firstI hLS ⟨by rw [e123]; exact z3 2 (by omega), by rw [e123]; exact z3 3 (by omega)⟩
  have eF : fX11_read_20 gx_N 122 0 1 (lay N1) = fX11_read_49 (fX11_read_20 19999) 122 0 122 1 (lay N1) := by
    rw [show gx_N = 19999 + 1 from rfl]
    show bX11_read_20 (fX11_read_20 19999) 122 0 1 (lay N1) = _
    unfold bX11_read_20 fX11_read_39
    rw [if_neg (show ¬ (1 : Int32) = 0 by decide), i_122_8, Option.bind_some, i_122_3, Option.bind_some, if_pos (show (0 : Int32) = 0 from rfl), if_pos (show (0 : Int32) = 0 from rfl), ite_self]
  rw [eF]
  unfold fX11_read_49
  rw [c1, gx_bd_some, c2, gx_bd_some]
  cases ok with
  | false =>
    rw [if_pos (show bI false = 0 from rfl), if_pos (show bI false = 0 from rfl)]
    refine ⟨M2, N2, c3, c4, Or.inr ⟨rfl, ?_⟩⟩
    rw [show bI false = 0 from rfl, show (19999 : Nat) = 19998 + 1 from rfl, r_fail, c5]
  | true =>
    rw [if_neg (show ¬ bI true = 0 by decide), if_neg (show ¬ bI true = 0 by decide)]
    obtain ⟨p', n', np', hp', hPS⟩ := c6 rfl
    obtain ⟨M3, N3, d1, d2, d3, d4, d5, d6, d7, d8⟩ := goOn hPS
    rw [d1, gx_bd_some, d2, gx_bd_some, show bI true = 1 from rfl]
    exact RJ.mono (c3.tr d3.C) (c4.tr d4.R) (readL gx_N 1 (bl t tx p') 19999 M3 N3 n' np' (by unfold gx_N; omega) (by omega) d5 d7 d8 (by omega) (by omega))
end RD
/-! two memories that are laid out alike -/
theorem layA {M M' : mm} {a k : Nat} (c n : Nat) (e : lay M = lay M') (h : isA a c n = true) (hc : c ≤ 2) (hk : k < n) (hn : n ≤ 852) : M.1 a k = M'.1 a k := by
  have h1 := aI_lay (M := M) n h hc hk hn
  rw [e, aI_lay (M := M') n h hc hk hn] at h1
  exact (Option.some.inj h1).symm
theorem layV {M M' : mm} {b j : Nat} (e : lay M = lay M') (hb : brd b) (hj : j < 40) : VC M.1 b j = VC M'.1 b j := by
  by_cases c0 : j < 4
  · rw [VC_0 _ _ c0, VC_0 _ _ c0]
    rcases (show j = 0 ∨ j = 1 ∨ j = 2 ∨ j = 3 by omega) with rfl | rfl | rfl | rfl
    · have h1 := bi0 (M := M) hb
      rw [e, bi0 hb] at h1
      exact (Option.some.inj h1).symm
    · have h1 := bi1 (M := M) hb
      rw [e, bi1 hb] at h1
      exact (Option.some.inj h1).symm
    · have h1 := bi2 (M := M) hb
      rw [e, bi2 hb] at h1
      exact (Option.some.inj h1).symm
    · have h1 := bi3 (M := M) hb
      rw [e, bi3 hb] at h1
      exact (Option.some.inj h1).symm
  by_cases c1 : j < 10
  · obtain ⟨k, rfl⟩ : ∃ k, j = 4 + k := ⟨j - 4, by omega⟩
    rw [VC_1 _ _ (by omega), VC_1 _ _ (by omega)]
    exact layA 0 6 e hb.2.1 (by omega) (by omega) (by omega)
  by_cases c2 : j < 16
  · obtain ⟨k, rfl⟩ : ∃ k, j = 10 + k := ⟨j - 10, by omega⟩
    rw [VC_2 _ _ (by omega), VC_2 _ _ (by omega)]
    exact layA 0 6 e hb.2.2.1 (by omega) (by omega) (by omega)
  by_cases c3 : j < 22
  · obtain ⟨k, rfl⟩ : ∃ k, j = 16 + k := ⟨j - 16, by omega⟩
    rw [VC_3 _ _ (by omega), VC_3 _ _ (by omega)]
    exact layA 0 6 e hb.2.2.2.1 (by omega) (by omega) (by omega)
  by_cases c4 : j < 28
  · obtain ⟨k, rfl⟩ : ∃ k, j = 22 + k := ⟨j - 22, by omega⟩
    rw [VC_4 _ _ (by omega), VC_4 _ _ (by omega)]
    exact layA 0 6 e hb.2.2.2.2.1 (by omega) (by omega) (by omega)
  by_cases c5 : j < 32
  · obtain ⟨k, rfl⟩ : ∃ k, j = 28 + k := ⟨j - 28, by omega⟩
    rw [VC_5 _ _ (by omega), VC_5 _ _ (by omega)]
    exact layA 0 4 e hb.2.2.2.2.2.1 (by omega) (by omega) (by omega)
  by_cases c6 : j < 36
  · obtain ⟨k, rfl⟩ : ∃ k, j = 32 + k := ⟨j - 32, by omega⟩
    rw [VC_6 _ _ (by omega), VC_6 _ _ (by omega)]
    exact layA 0 4 e hb.2.2.2.2.2.2.1 (by omega) (by omega) (by omega)
  · obtain ⟨k, rfl⟩ : ∃ k, j = 36 + k := ⟨j - 36, by omega⟩
    rw [VC_7 _ _ (by omega), VC_7 _ _ (by omega)]
    exact layA 0 4 e hb.2.2.2.2.2.2.2 (by omega) (by omega) (by omega)
theorem lay905 {M M' : mm} (e : lay M = lay M') : M.1 90 5 = M'.1 90 5 := by
  have h1 := i_90_5 (M := M)
  rw [e, i_90_5] at h1
  exact (Option.some.inj h1).symm
theorem FC_kp {M M' : mm} (h : FC M M') : kp M M' := by
  obtain ⟨h1, h2, h3⟩ := h
  exact ⟨by rw [h1], by rw [h1], by rw [h1], by rw [h1], fun a ha => h2 a (by omega), h3 0 (by omega), by rw [h2 122 (by omega)], fun j hj => by rw [h2 123 (by omega)]⟩
theorem FR_kp {N N' : mm} (h : FR N N') : kp N N' := by
  obtain ⟨h1, h2, h3, h4⟩ := h
  exact ⟨by rw [h1], by rw [h1], by rw [h1], by rw [h1], fun a ha => h2 a (by omega) (by omega), by rw [h2 90 (by omega) (by omega)], h3 3 (by omega) (by omega) (by omega), fun j hj => h4 j (by omega)⟩
theorem inv_new {M M' : mm} (h : Inv M) {n np hs : Nat} {q : Nat → Nat} (g : GM M' n np hs q) (e2 : M'.2 = M.2) (hc : ∀ a, a = 0 ∨ (30 ≤ a ∧ a < 90) ∨ a = 99 ∨ (124 ≤ a ∧ a ≤ 126) → M'.1 a = M.1 a) (h90 : M'.1 90 0 = M.1 90 0) (h122 : M'.1 122 3 = M.1 122 3) (hw : ∀ j, 203 ≤ j → j < 609 → M'.1 123 j = M.1 123 j) : Inv M' := by
  obtain ⟨h1, h2, h3, h4, h5, h6, h7⟩ := h
  have e89 : M'.1 89 = M.1 89 := hc 89 (by omega)
  have e124 : M'.1 124 = M.1 124 := hc 124 (by omega)
  refine ⟨GM_iff.mpr ⟨n, np, hs, q, g⟩, ?_, ?_, ?_, ?_, ?_, ?_⟩
  · refine ⟨by rw [e89, e124]; exact h2.1, ?_⟩
    rw [e89]
    rcases h2.2 with z | ⟨z, z2⟩
    · exact Or.inl z
    · exact Or.inr ⟨z, z2.eq (fun a _ _ => hc a (by omega)) (by rw [e2]) (fun j _ _ => hw j (by omega) (by omega))⟩
  · refine ⟨by rw [e89, e124]; exact h3.1, ?_⟩
    rw [e89]
    rcases h3.2 with z | ⟨z, z2⟩
    · exact Or.inl z
    · exact Or.inr ⟨z, z2.eq (fun a _ _ => hc a (by omega)) (by rw [e2]) (fun j _ _ => hw j (by omega) (by omega))⟩
  · obtain ⟨t, t1, t2, t3, t4⟩ := h4
    exact ⟨t, t1, by rw [h90]; exact t2, by rw [h122]; exact t3, fun k hk => by rw [hc 99 (by omega), hc 125 (by omega)]; exact t4 k hk⟩
  · unfold FQ; rw [e2]; exact h5
  · unfold ST; rw [hc 0 (by omega), hc 126 (by omega)]; exact h6
  · obtain ⟨p1, p2, p3, p4, p5⟩ := h7
    exact ⟨by rw [e2]; exact p1, by rw [e2]; exact p2, by rw [e2]; exact p3, p4.eq (by rw [e2]), p5.eq (by rw [e2])⟩
theorem op_read : Op (fX10_read 0) (fX11_read 122) := by
  intro M h
  obtain ⟨n0, np0, hs0, q0, g⟩ := h.gm
  obtain ⟨t, ht, t1, t2, t3⟩ := h.2.2.2.1
  obtain ⟨tx, htx⟩ : ∃ tx : Nat → Int32, tx = fun k => if k < t then M.1 99 k else -1 := ⟨_, rfl⟩
  have hlt : ∀ k, k < t → tx k = M.1 99 k := fun k hk => by rw [htx]; exact if_pos hk
  have hT : okT t tx := ⟨ht, fun k hk => by rw [htx]; exact if_neg (by omega), fun k hk => by rw [hlt k hk]; exact (t3 k hk).2⟩
  have hC : CT M t tx := ⟨t1, fun k hk => (hlt k hk).symm⟩
  have hRN : ∀ N : mm, N.1 122 = M.1 122 → N.1 125 = M.1 125 → RT N t tx := fun N e1 e2 => ⟨by rw [e1]; exact t2, fun k hk => by rw [e2, hlt k hk]; exact (t3 k hk).1.symm⟩
  obtain ⟨_, _, _, M1, _, fC, _, hcase⟩ := readW (N := M) hT hC (hRN M rfl rfl)
  unfold fX10_read
  rw [o_0, Option.bind_some, r_0_3, Option.bind_some]
  rcases hcase with ⟨k, n, np, hk, a1, _, a3, _⟩ | ⟨a1, _⟩
  · -- read
    rw [a1, gx_bd_some, if_neg (ne_m1 (by omega)), r_0_0, Option.bind_some]
    unfold fX1_dropPast fX3_empty fX7_empty
    rw [o_1, Option.bind_some, r_1_1, Option.bind_some, o_10, Option.bind_some, pi_10_0, Option.bind_some, gx_bd_some, r_1_2, Option.bind_some, o_20, Option.bind_some, i_20_0, Option.bind_some, pi_20_0, Option.bind_some, gx_bd_some, r_1_3, Option.bind_some, o_25, Option.bind_some, i_25_0, Option.bind_some, pi_25_0, Option.bind_some, gx_bd_some, gx_bd_some, r_0_0, Option.bind_some, r_1_0, Option.bind_some, r_0_3, Option.bind_some, r_90_1, Option.bind_some]
    obtain ⟨M2, b1, b2, b3⟩ := c_bcopy brd_91 brd_2 (by omega) (sI (sI (sI M1 10 0 0) 20 0 0) 25 0 0)
    rw [b1, gx_bd_some]
    have f2 : ∀ c, ¬ (2 ≤ c ∧ c < 10) → c ≠ 10 → c ≠ 20 → c ≠ 25 → M2.1 c = M1.1 c := fun c q1 q2 q3 q4 => by rw [b2.2 c (fun z => by unfold inB at z; omega), sI_o q4, sI_o q3, sI_o q2]
    have fM : ∀ c, 30 ≤ c → c < 90 ∨ 101 ≤ c ∨ c = 99 → M2.1 c = M.1 c := fun c q1 q2 => by rw [f2 c (by omega) (by omega) (by omega) (by omega), fC.2.1 c (by omega)]
    have e2 : M2.2 = M.2 := by rw [b2.1]; exact fC.1
    obtain ⟨N0, z1, z2, M1', N1, fC', fR', hcase'⟩ := readW (N := M2) hT hC (hRN M2 (fM 122 (by omega) (by omega)) (fM 125 (by omega) (by omega)))
    rcases hcase' with ⟨k', n', np', hk', c1, c2, c3, c4⟩ | ⟨c1, _⟩
    · rw [a1] at c1
      have c1' := Option.some.inj c1
      have ek : nI k = nI k' := congrArg Prod.fst c1'
      have el : lay M1 = lay M1' := congrArg Prod.snd c1'
      obtain ⟨N2, d1, d2, d3⟩ := r_copy (a := 609) (c := 0) (by omega) (by omega) (by omega) N1
      have d1' : fX11_copy 122 609 0 (lay N1) = some ((), lay N2) := d1
      rw [d1', gx_bd_some] at c2
      refine ⟨nI k, M2, N2, rfl, by rw [c2, ek], ?_⟩
      -- what stands then
      have w1 : ∀ c, c ≠ 122 → c ≠ 123 → N2.1 c = M2.1 c := fun c q1 q2 => by rw [d2.2.1 c q2, fR'.2.1 c q1 q2, z1.2.1 c q2]
      have w2 : N2.2 = M.2 := by rw [d2.1, fR'.1, z1.1, e2]
      have wz : ∀ j, 40 ≤ j → j < 203 → N2.1 123 j = 0 := fun j q1 q2 => by
        have := d3 j q2
        rw [Nat.zero_add] at this
        rw [this, fR'.2.2.2 (609 + j) (by omega), z2 j q2]
      have wv : ∀ j, j < 40 → VC N2.1 2 j = VC M1'.1 91 j := fun j hj => by
        rw [← layV el brd_91 hj]
        have v1 : VC N2.1 2 = VC M2.1 2 := VC_eq (fun c q1 q2 => w1 c (by omega) (by omega))
        rw [v1, b3 j hj]
        have v2 : VC (sI (sI (sI M1 10 0 0) 20 0 0) 25 0 0).1 91 = VC M1.1 91 := VC_eq (fun c q1 q2 => by rw [sI_o (by omega), sI_o (by omega), sI_o (by omega)])
        rw [v2]
      have wr : ∀ j, j < 40 → VR N2.1 0 j = VR N1.1 609 j := fun j hj => by
        rw [VR0]
        have := d3 j (by omega)
        rw [Nat.zero_add] at this
        rw [this]
        rfl
      have hok : okV (VC N2.1 2) n' np' := okV_eq c3 wv
      have heq : eqv n' np' (VC N2.1 2) (VR N2.1 0) := eqv_iff.mpr (fun j hj => by
        have hj40 : j < 40 := by have := c3.2.1; have := c3.2.2.2.1; unfold rel at hj; omega
        rw [wv j hj40, wr j hj40]
        exact eqv_iff.mp c4 j hj)
      have v10 : N2.1 10 0 = 0 := by rw [w1 10 (by omega) (by omega), b2.2 10 (fun z => by unfold inB at z; omega), sI_o (by omega), sI_o (by omega), sI_s]
      have v20 : N2.1 20 0 = 0 := by rw [w1 20 (by omega) (by omega), b2.2 20 (fun z => by unfold inB at z; omega), sI_o (by omega), sI_s]
      have v25 : N2.1 25 0 = 0 := by rw [w1 25 (by omega) (by omega), b2.2 25 (fun z => by unfold inB at z; omega), sI_s]
      refine inv_new h (M' := N2) (n := n') (np := np') (hs := 0) (q := q0) ⟨hok, heq, ⟨0, by omega, ?_, ?_, fun e he => by omega, fun e he => by omega⟩, ⟨0, by omega, ?_, ?_, fun e he => by omega, fun e he => by omega⟩, by omega, ?_, ?_, ?_, g.2.2.2.2.2.2.2.2.1, trivial⟩ w2 ?_ ?_ ?_ ?_
      · show N2.1 20 0 = _; rw [v20]; rfl
      · rw [VR0, wz 40 (by omega) (by omega)]; rfl
      · show N2.1 25 0 = _; rw [v25]; rfl
      · rw [VR0, wz 65 (by omega) (by omega)]; rfl
      · rw [v10]; rfl
      · rw [wz 90 (by omega) (by omega)]; rfl
      · rw [w2]; exact g.2.2.2.2.2.2.2.1
      · intro a ha
        rcases ha with rfl | ha | rfl | ha
        · rw [w1 0 (by omega) (by omega), f2 0 (by omega) (by omega) (by omega) (by omega), fC.2.1 0 (by omega)]
        · rw [w1 a (by omega) (by omega), fM a (by omega) (by omega)]
        · rw [w1 99 (by omega) (by omega), fM 99 (by omega) (by omega)]
        · rw [w1 a (by omega) (by omega), fM a (by omega) (by omega)]
      · rw [w1 90 (by omega) (by omega), f2 90 (by omega) (by omega) (by omega) (by omega), fC.2.2 0 (by omega)]
      · rw [d2.2.1 122 (by omega), fR'.2.2.1 3 (by omega) (by omega) (by omega), z1.2.1 122 (by omega), fM 122 (by omega) (by omega)]
      · intro j q1 q2
        rw [d2.2.2 j (by omega), fR'.2.2.2 j (by omega), z1.2.2 j (by omega), fM 123 (by omega) (by omega)]
    · rw [a1] at c1
      exact absurd (congrArg Prod.fst (Option.some.inj c1)) (ne_m1 (by omega))
  · -- a fault
    rw [a1, gx_bd_some, if_pos (show (-1 : Int32) = -1 from rfl), r_0_3, Option.bind_some]
    unfold fX9_fault
    rw [o_90, Option.bind_some, i_90_5, Option.bind_some, gx_bd_some]
    obtain ⟨N0, z1, z2, M1', N1, fC', fR', hcase'⟩ := readW (N := M1) hT hC (hRN M1 (fC.2.1 122 (by omega)) (fC.2.1 125 (by omega)))
    rcases hcase' with ⟨k', n', np', hk', c1, _⟩ | ⟨c1, c2⟩
    · rw [a1] at c1
      exact absurd (congrArg Prod.fst (Option.some.inj c1)).symm (ne_m1 (by omega))
    · rw [a1] at c1
      have el : lay M1 = lay M1' := congrArg Prod.snd (Option.some.inj c1)
      refine ⟨_, M1, N1, rfl, ?_, ((h.kp (FC_kp fC)).kp (z1.kp (by omega))).kp (FR_kp fR')⟩
      rw [c2, lay905 el]
