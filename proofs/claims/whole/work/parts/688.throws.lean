/-! throws told in a text; the board; an item; the whole text -/
section THW
variable {t : Nat} {tx : Nat → Int32}
theorem bl_bl {p : Nat} (hp : p ≤ t) : bl t tx (bl t tx p) = bl t tx p := by
  have hs := run_ge (tx := tx) (lo := 32) (hi := 32) hp
  have hs2 : bl t tx p ≤ t := hs.2
  by_cases c : t ≤ bl t tx p
  · exact run_t c
  · exact run_no (run_end hp (show run t tx 32 32 p < t by show bl t tx p < t; omega))
def Kt (x : Int32) (h : gx_H) : Option (Int32 × gx_H) := if x = 0 then fX11_readsItem_89 122 h else fX11_readsItem_90 122 1 h
theorem Kt0 {h : gx_H} : Kt 0 h = some (0, h) := by
  unfold Kt fX11_readsItem_89
  rw [if_pos rfl, RI0]
theorem Kt1 {h : gx_H} : Kt 1 h = fX11_readsItem_90 122 1 h := by
  unfold Kt
  rw [if_neg (by decide)]
def PQ (t : Nat) (tx : Nat → Int32) (M N : mm) (p q n np : Nat) : Prop := okT t tx ∧ CT M t tx ∧ RT N t tx ∧ p ≤ t ∧ q ≤ t ∧ M.1 90 6 = nI p ∧ N.1 122 7 = nI q ∧ bl t tx q = bl t tx p ∧ okV (VC M.1 91) n np ∧ eqv n np (VC M.1 91) (VR N.1 609)
theorem r_end1 {N : mm} {q : Nat} (hT : okT t tx) (hr : RT N t tx) (hq : q ≤ t) (h7 : N.1 122 7 = nI q) (h59 : tx (bl t tx q) = 59) : ∃ N', fX11_readsItem_90 122 1 (lay N) = some (1, lay N') ∧ F9 N N' ∧ N'.1 122 7 = nI (bl t tx q + 1) ∧ N'.1 122 8 = nI (bl t tx q) := by
  obtain ⟨N1, b1, b2, b3, b4⟩ := r_takesEnd hT hr hq h7
  refine ⟨N1, ?_, b2, b3, b4⟩
  unfold fX11_readsItem_90 fX11_readsItem_106 fX11_readsItem_107
  rw [if_neg (by decide), b1, gx_bd_some, decide_eq_true h59, if_neg (by decide)]
  rfl
theorem thrL {i n np : Nat} (hi : i < np) : ∀ (F m c F' : Nat) (M N : mm) (p q : Nat) (v3 : Int32), c + m = 9 → m < F → m < F' → PQ t tx M N p q n np → ((c = 0 ∧ v3 = 1) ∨ (1 ≤ c ∧ v3 = bI (decide (¬ tx (bl t tx p) = 59)) ∧ N.1 122 8 = nI (bl t tx p))) → IR t tx M N p (fX9_throwItem_26 F 90 (nI i) (nI c) (lay M)) (gx_bd (fX11_readsThrows_29 F' 122 (nI i) (nI c) v3 (lay N)) Kt)
  | 0, m, c, F', M, N, p, q, v3, _, hF, _, _, _ => by omega
  | F + 1, m, c, 0, M, N, p, q, v3, _, _, hF', _, _ => by omega
  | F + 1, m, c, F' + 1, M, N, p, q, v3, hc, hF, hF', h, hv => by
    obtain ⟨hT, hC, hR, hp, hq, h6, h7, hbl, hok, he⟩ := h
    have h150 := hT.1
    have hp4 := hok.2.2.2.1
    have hi4 : i < 4 := by omega
    have hs := run_ge (tx := tx) (lo := 32) (hi := 32) hp
    have hs1 : p ≤ bl t tx p := hs.1
    have hs2 : bl t tx p ≤ t := hs.2
    obtain ⟨M1, a1, a2, a3, a4, a5, a6⟩ := c_token hT hC hp h6
    show IR t tx M N p (bX9_throwItem_26 (fX9_throwItem_26 F) 90 (nI i) (nI c) (lay M)) (gx_bd (bX11_readsThrows_29 (fX11_readsThrows_29 F') 122 (nI i) (nI c) v3 (lay N)) Kt)
    unfold bX9_throwItem_26 bX11_readsThrows_29
    by_cases c59 : tx (bl t tx p) = 59 ∧ 1 ≤ c
    · -- the end
      have k3 := (kd_3 hT hs2).mpr c59.1
      obtain ⟨e1, e2⟩ := en_3 hT hs2 c59.1
      have hv3 : v3 = 0 := by
        rcases hv with ⟨z, _⟩ | ⟨_, z, _⟩
        · omega
        · rw [z, decide_eq_false (fun y => y c59.1)]; rfl
      obtain ⟨N1, b1, b2, b3, b4⟩ := r_end1 hT hR hq h7 (by rw [hbl]; exact c59.1)
      rw [hbl] at b3 b4
      rw [if_pos hv3, ret1, gx_bd_some, Kt1, b1]
      have hP : PS t tx M1 N1 (bl t tx p + 1) n np := ⟨hT, hC.f4 a2, hR.f9 b2, by omega, by rw [a5, e1], b3, by rw [a3, b4], by rw [a2.V]; exact hok, by rw [a2.V, b2.V]; exact he⟩
      refine ⟨true, M1, N1, ?_, rfl, a2.C, b2.R, by rw [a3, b4], fun _ => ⟨_, n, np, by omega, hP⟩⟩
      by_cases c9 : c = 9
      · rw [if_pos (show (9 : Int32) ≤ nI c from nI_le (a := 9) (by omega) (by omega))]
        unfold fX9_nextSemicolon fX9_nextSemicolon_17
        rw [o_90, Option.bind_some, a1, gx_bd_some, i_90_4, Option.bind_some, a4, if_pos k3, ret1, gx_bd_some]
        rfl
      · rw [if_neg (show ¬ (9 : Int32) ≤ nI c from nI_ge (b := 9) (by omega) (by omega)), a1, gx_bd_some, if_neg (show ¬ nI c ≤ 0 from fun z => by have := (le0 (by omega)).mp z; omega), i_90_4, Option.bind_some, a4, if_pos k3]
        rfl
    · have hv3 : v3 = 1 := by
        rcases hv with ⟨_, z⟩ | ⟨z1, z, _⟩
        · exact z
        · rw [z, decide_eq_true (show ¬ tx (bl t tx p) = 59 from fun y => c59 ⟨y, z1⟩)]; rfl
      rw [if_neg (show ¬ v3 = 0 from by rw [hv3]; decide)]
      by_cases c9 : c = 9
      · have h59 : ¬ tx (bl t tx p) = 59 := fun y => c59 ⟨y, by omega⟩
        have h8 : N.1 122 8 = nI (bl t tx p) := by
          rcases hv with ⟨z, _⟩ | ⟨_, _, z⟩
          · omega
          · exact z
        rw [if_pos (show (9 : Int32) ≤ nI c from nI_le (a := 9) (by omega) (by omega)), if_pos (show nI c = 9 from by rw [c9]; rfl)]
        unfold fX9_nextSemicolon fX9_nextSemicolon_17 fX11_readsThrows_66
        rw [o_90, Option.bind_some, a1, gx_bd_some, i_90_4, Option.bind_some, a4, if_neg (fun y => h59 ((kd_3 hT hs2).mp y))]
        simp only [ret0, gx_bd_some, Kt0]
        exact IR.no rfl rfl a2.C FR.rf (by rw [a3, h8])
      · rw [if_neg (show ¬ (9 : Int32) ≤ nI c from nI_ge (b := 9) (by omega) (by omega)), if_neg (show ¬ nI c = 9 from ne_nI (b := 9) (by omega) (by omega) c9), a1, gx_bd_some]
        have e50 : (if nI c ≤ 0 then fX9_throwItem_50 (fX9_throwItem_26 F) 90 (nI i) (nI c) (lay M1) else (gx_fI (lay M1) 90 7 4).bind fun x10 => if x10 = (3 : Int32) then gx_ret .boolean (1 : Int32) (lay M1) else fX9_throwItem_50 (fX9_throwItem_26 F) 90 (nI i) (nI c) (lay M1)) = fX9_throwItem_50 (fX9_throwItem_26 F) 90 (nI i) (nI c) (lay M1) := by
          by_cases z : c = 0
          · rw [if_pos ((le0 (by omega)).mpr z)]
          · rw [if_neg (fun y => z ((le0 (by omega)).mp y)), i_90_4, Option.bind_some, a4, if_neg (fun y => c59 ⟨(kd_3 hT hs2).mp y, by omega⟩)]
        rw [e50]
        unfold fX9_throwItem_50 fX9_throwItem_76 fX11_readsThrows_66 fX11_readsThrows_105
        have v1 : M1.1 91 1 = VC M.1 91 1 := by rw [a2.2.1 91 (by omega), VC_0 _ _ (by omega)]
        have w1 : N.1 123 610 = VC M.1 91 1 := he.2.1.symm
        rw [r_90_1, Option.bind_some, bi1 brd_91, Option.bind_some, v1, c_isNumber hT hs2 a4 a6, gx_bd_some, r_122_0, Option.bind_some, show gx_aI 0 (lay N) 123 610 = some (N.1 123 610) from ra (k := 610) (by omega), Option.bind_some, w1]
        obtain ⟨N1, g1, g2, g3, g4, g5⟩ := r_takesNumber (lo := 1) (hi := VC M.1 91 1) hT hR hq h7
        rw [hbl] at g1 g3 g4 g5
        rw [g1, gx_bd_some]
        cases hnk : nOK t tx (bl t tx p) 1 (VC M.1 91 1) with
        | false =>
          rw [if_pos (show bI false = 0 from rfl), if_pos (show bI false = 0 from rfl)]
          simp only [ret0, gx_bd_some, Kt0]
          exact IR.no rfl rfl a2.C g2.R (by rw [a3, g4])
        | true =>
          have z' := of_decide_eq_true hnk
          have k2 := (kd_2 hT hs2).mpr z'.1
          have hG := run_ge (tx := tx) (lo := 48) (hi := 57) hs2
          have hG2 : dg t tx (bl t tx p) ≤ t := hG.2
          have g5' := g5 hnk
          have a6' := a6 k2
          rw [en_2 hT hs2 k2] at a5
          have hD := hok.2.2.2.2.2.1
          have hb1 : fX0_isHome 91 (nI i) (lay M1) = some (b2 (VC M.1 91 (32 + i) = VC M.1 91 0), lay M1) := by
            rw [← a2.V, VC_6 _ _ hi4, VC_0 _ _ (by omega)]
            exact c_isHome brd_91 hi4
          have hb2 : fX11_isHome 122 609 (nI i) (lay N1) = some (b2 (VC M.1 91 (32 + i) = VC M.1 91 0), lay N1) := by
            rw [he.1, (he.2.2.2.2.2 i hi).2.1, ← g2.V]
            exact r_isHome (r := 609) (by omega) hi4
          rw [if_neg (show ¬ bI true = 0 by decide), if_neg (show ¬ bI true = 0 by decide), r_90_1, Option.bind_some, hb1, gx_bd_some, hb2, gx_bd_some]
          by_cases ch : VC M.1 91 (32 + i) = VC M.1 91 0
          · rw [b2_t ch, if_neg (show ¬ (1 : Int32) = 0 by decide), if_neg (show ¬ (1 : Int32) = 0 by decide)]
            simp only [ret0, gx_bd_some, Kt0]
            exact IR.no rfl rfl a2.C g2.R (by rw [a3, g4])
          rw [b2_f ch, if_pos (show (0 : Int32) = 0 from rfl), if_pos (show (0 : Int32) = 0 from rfl)]
          generalize hv : vl tx (bl t tx p) (dg t tx (bl t tx p)) = v at *
          have hvb : 0 ≤ v.toInt ∧ v.toInt ≤ 6 := by
            have y1 := z'.2.1
            have y2 := z'.2.2
            rw [t_le, i1] at y1
            rw [t_le] at y2
            have := hD.2
            omega
          obtain ⟨r, hr6, rfl⟩ := bn_nI (x := v) (n := 6) hvb
          have hr1 : 1 ≤ r := by
            have y1 := z'.2.1
            rw [t_le, i1, nI_toInt (by omega)] at y1
            omega
          rw [r_90_1, Option.bind_some, i_90_7, Option.bind_some, a6', r_90_3, Option.bind_some, i_122_9, Option.bind_some, g5']
          obtain ⟨M2, x1, x2, _, _, _, _, _, x8⟩ := c_move (M := M1) (b := 91) (s := 100) (n := n) (np := np) (i := i) (r := r) brd_91 (by decide) (by omega) (by rw [a2.V]; exact hok) hi hr1 hr6
          obtain ⟨N2, y1, y2, y3⟩ := r_throwsOne (M := N1) (r := 609) (n := n) (np := np) (i := i) (t := nI r) (by omega) (by rw [g2.V]; exact eqv_ok he hok) hi
          have y1' : fX11_throwsOne 122 609 (nI i) (nI r) (lay N1) = some ((), lay N2) := y1
          rw [x1, gx_bd_some, y1', gx_bd_some]
          have e90 : M2.1 90 = M1.1 90 := x8.2 90 (fun z => by unfold inBS at z; omega)
          have e122 : N2.1 122 = N1.1 122 := y3.2.1 122 (by omega)
          have hC2 : CT M2 t tx := ⟨by rw [e90]; exact (hC.f4 a2).1, fun k hk => by rw [x8.2 99 (fun z => by unfold inBS at z; omega)]; exact (hC.f4 a2).2 k hk⟩
          have hR2 : RT N2 t tx := ⟨by rw [e122]; exact (hR.f9 g2).1, fun k hk => by rw [y3.2.1 125 (by omega)]; exact (hR.f9 g2).2 k hk⟩
          obtain ⟨N3, u1, u2, u3, u4⟩ := r_blanks hT hG2 hR2 (by rw [e122]; exact g3)
          have hs' := run_ge (tx := tx) (lo := 32) (hi := 32) hG2
          have hs2' : bl t tx (dg t tx (bl t tx p)) ≤ t := hs'.2
          have u3' : N3.1 122 7 = nI (bl t tx (dg t tx (bl t tx p))) := u3
          have u4' : N3.1 122 8 = nI (bl t tx (dg t tx (bl t tx p))) := u4
          rw [u1, gx_bd_some, i_122_7, Option.bind_some, u3', r_byte (hR2.f9 u2) hT.1 hT.2.1 (by omega), gx_bd_some, nI_1]
          have x2' : VC M2.1 91 = thr (VC M.1 91) n i (nI r) := by rw [x2, a2.V]
          have y2' : VR N2.1 609 = thr (VR N.1 609) n i (nI r) := by rw [y2, g2.V]
          have hPQ : PQ t tx M2 N3 (dg t tx (bl t tx p)) (bl t tx (dg t tx (bl t tx p))) n np := ⟨hT, hC2, hR2.f9 u2, hG2, hs2', by rw [e90]; exact a5, u3', bl_bl hG2, by rw [x2']; exact okV_thr hok hi hr1 hr6, by rw [x2', u2.V, y2']; exact eqv_thr he hi⟩
          have fin := thrL hi F (m - 1) (c + 1) F' M2 N3 (dg t tx (bl t tx p)) (bl t tx (dg t tx (bl t tx p))) (bI (decide (¬ tx (bl t tx (dg t tx (bl t tx p))) = 59))) (by omega) (by omega) (by omega) hPQ (Or.inr ⟨by omega, rfl, u4'⟩)
          have em : ∀ x : Int32, (if x = 59 then fX11_readsThrows_29 F' 122 (nI i) (nI (c + 1)) 0 (lay N3) else fX11_readsThrows_29 F' 122 (nI i) (nI (c + 1)) 1 (lay N3)) = fX11_readsThrows_29 F' 122 (nI i) (nI (c + 1)) (bI (decide (¬ x = 59))) (lay N3) := fun x => by
            by_cases w : x = 59
            · rw [if_pos w, decide_eq_false (fun y => y w)]; rfl
            · rw [if_neg w, decide_eq_true w]; rfl
          rw [em]
          exact IR.mono (a2.C.tr (frS_C x8)) (g2.R.tr ((frW_R y3).tr u2.R)) (by omega) fin
theorem throwI {M N : mm} {p n np : Nat} (h : PS t tx M N p n np) : IR t tx M N p (fX9_throwItem 90 (lay M)) (gx_bd (fX11_readsThrows 122 (lay N)) Kt) := by
  have hp4 := h.2.2.2.2.2.2.2.1.2.2.2.1
  obtain ⟨v0, w0, v1, w1, v2, w2, v3, w3⟩ := h.V0
  unfold fX9_throwItem fX11_readsThrows
  rw [o_90, Option.bind_some, r_90_1, Option.bind_some, bi3 brd_91, Option.bind_some, v3, o_122, Option.bind_some, r_122_0, Option.bind_some, show gx_aI 0 (lay N) 123 612 = some (N.1 123 612) from ra (k := 612) (by omega), Option.bind_some, w3]
  obtain ⟨ok1, M1, N1, k, a1, a2, a3, a4, a5, a6⟩ := numJ (lo := 0) (hi := nI np - 1) h
  rw [a1, gx_bd_some, a2, gx_bd_some]
  cases ok1 with
  | false =>
    rw [if_pos (show bI false = 0 from rfl), if_pos (show bI false = 0 from rfl)]
    simp only [ret0, gx_bd_some, Kt0]
    exact IR.no rfl rfl a3.C a4.R a5
  | true =>
    obtain ⟨p1, hp1, h1, k7, k9, kl, kh⟩ := a6 rfl
    refine IR.mono a3.C a4.R (show p ≤ p1 by omega) ?_
    obtain ⟨i, hi, rfl⟩ := in_k (k := np) (by omega) ⟨kl, kh⟩
    rw [if_neg (show ¬ bI true = 0 by decide), if_neg (show ¬ bI true = 0 by decide), i_90_7, Option.bind_some, k7, i_122_9, Option.bind_some, k9]
    obtain ⟨hT, hC, hR, hp, h6, h7, h58, hok, he⟩ := h1
    exact thrL hi gx_N 9 0 gx_N M1 N1 p1 p1 1 (by omega) (by unfold gx_N; omega) (by unfold gx_N; omega) ⟨hT, hC, hR, hp, hp, h6, h7, rfl, hok, he⟩ (Or.inl ⟨rfl, rfl⟩)
/-- where both stand, without boards -/
def PT (t : Nat) (tx : Nat → Int32) (M N : mm) (p : Nat) : Prop := okT t tx ∧ CT M t tx ∧ RT N t tx ∧ p ≤ t ∧ M.1 90 6 = nI p ∧ N.1 122 7 = nI p ∧ M.1 90 5 = N.1 122 8
theorem numT {M N : mm} {p : Nat} {lo hi : Int32} (h : PT t tx M N p) : ∃ (ok : Bool) (M' N' : mm) (v : Int32), fX9_nextNumber 90 lo hi (lay M) = some (bI ok, lay M') ∧ fX11_takesNumber 122 lo hi (lay N) = some (bI ok, lay N') ∧ F4 M M' ∧ F9 N N' ∧ M'.1 90 5 = N'.1 122 8 ∧ (ok = true → ∃ p', p < p' ∧ PT t tx M' N' p' ∧ M'.1 90 7 = v ∧ N'.1 122 9 = v ∧ lo ≤ v ∧ v ≤ hi) := by
  obtain ⟨hT, hc, hr, hp, h6, h7, h58⟩ := h
  obtain ⟨M1, a1, a2, a3, a4, a5, a6⟩ := c_token hT hc hp h6
  obtain ⟨N1, b1, b2, b3, b4, b5⟩ := r_takesNumber (lo := lo) (hi := hi) hT hr hp h7
  have hs := run_ge (tx := tx) (lo := 32) (hi := 32) hp
  have hs1 : p ≤ bl t tx p := hs.1
  have hs2 : bl t tx p ≤ t := hs.2
  refine ⟨nOK t tx (bl t tx p) lo hi, M1, N1, vl tx (bl t tx p) (dg t tx (bl t tx p)), ?_, b1, a2, b2, by rw [a3, b4], fun z => ?_⟩
  · unfold fX9_nextNumber
    rw [o_90, Option.bind_some, a1, gx_bd_some, c_isNumber hT hs2 a4 a6, gx_bd_some, ret_bI]
  · have z' := of_decide_eq_true z
    have k2 := (kd_2 hT hs2).mpr z'.1
    have hG := run_ge (tx := tx) (lo := 48) (hi := 57) hs2
    have hG2 : dg t tx (bl t tx p) ≤ t := hG.2
    exact ⟨dg t tx (bl t tx p), by omega, ⟨hT, hc.f4 a2, hr.f9 b2, hG2, by rw [a5, en_2 hT hs2 k2], b3, by rw [a3, b4]⟩, a6 k2, b5 z, z'.2.1, z'.2.2⟩
theorem boardI {M N : mm} {p : Nat} (h : PT t tx M N p) (hz : N.1 123 611 = 0 ∧ N.1 123 612 = 0) : IR t tx M N p (gx_bd (fX9_nextNumber 90 (10 : Int32) (40 : Int32) (lay M)) fun x4 h3 => if x4 = 0 then fX9_boardItem_20 h3 else (gx_fI h3 90 7 7).bind fun x5 => gx_bd (fX9_nextNumber 90 (2 : Int32) (6 : Int32) h3) fun x7 h6 => if x7 = 0 then gx_ret .boolean (0 : Int32) h6 else (gx_fR h6 90 7 1).bind fun a8 => (gx_fI h6 90 7 7).bind fun x9 => gx_bd (fX0_start a8 x5 x9 h6) fun u11 h10 => gx_bd (fX9_nextSemicolon 90 h10) fun x13 h12 => gx_ret .boolean x13 h12) (gx_bd (fX11_readsBoard 122 (lay N)) fun x12 h11 => fX11_readsItem_90 122 x12 h11) := by
  unfold fX9_boardItem_20 fX11_readsBoard
  rw [o_122, Option.bind_some]
  obtain ⟨ok1, M1, N1, k, a1, a2, a3, a4, a5, a6⟩ := numT (lo := 10) (hi := 40) h
  rw [a1, gx_bd_some, a2, gx_bd_some]
  cases ok1 with
  | false =>
    rw [if_pos (show bI false = 0 from rfl), if_pos (show bI false = 0 from rfl)]
    simp only [ret0, gx_bd_some, RI0]
    exact IR.no rfl rfl a3.C a4.R a5
  | true =>
    obtain ⟨p1, hp1, h1, k7, k9, kl, kh⟩ := a6 rfl
    refine IR.mono a3.C a4.R (show p ≤ p1 by omega) ?_
    rw [if_neg (show ¬ bI true = 0 by decide), if_neg (show ¬ bI true = 0 by decide), i_90_7, Option.bind_some, k7, r_122_0, Option.bind_some, i_122_9, Option.bind_some, k9, show (609 : Int32) = nI 609 from rfl, rs (by omega), Option.bind_some]
    have g1 : frW 609 649 N1 (sI N1 123 609 k) := frW.rf.put (by omega) (by omega)
    have h1' : PT t tx M1 (sI N1 123 609 k) p1 := by
      obtain ⟨hT, hC, hR, hp, h6, h7, h58⟩ := h1
      exact ⟨hT, hC, ⟨by rw [sI_o (by omega)]; exact hR.1, fun k hk => by rw [sI_o (by omega)]; exact hR.2 k hk⟩, hp, h6, by rw [sI_o (by omega)]; exact h7, by rw [sI_o (by omega)]; exact h58⟩
    refine IR.mono FC.rf (frW_R g1) (Nat.le_refl _) ?_
    obtain ⟨ok2, M2, N2, x, b1, b2, b3, b4, b5, b6⟩ := numT (lo := 2) (hi := 6) h1'
    rw [b1, gx_bd_some, b2, gx_bd_some]
    cases ok2 with
    | false =>
      rw [if_pos (show bI false = 0 from rfl), if_pos (show bI false = 0 from rfl)]
      simp only [ret0, gx_bd_some, RI0]
      exact IR.no rfl rfl b3.C b4.R b5
    | true =>
      obtain ⟨p2, hp2, h2, x7, x9, xl, xh⟩ := b6 rfl
      refine IR.mono b3.C b4.R (show p1 ≤ p2 by omega) ?_
      unfold fX0_start
      rw [if_neg (show ¬ bI true = 0 by decide), if_neg (show ¬ bI true = 0 by decide), r_90_1, Option.bind_some, i_90_7, Option.bind_some, x7, bo brd_91, Option.bind_some, bp0 brd_91, Option.bind_some, bp1 brd_91, Option.bind_some, bp2 brd_91, Option.bind_some, bp3 brd_91, Option.bind_some, gx_bd_some, r_122_0, Option.bind_some, i_122_9, Option.bind_some, x9, show (610 : Int32) = nI 610 from rfl, rs (by omega), Option.bind_some, ret1, gx_bd_some]
      generalize hM3 : sI (sI (sI (sI M2 91 0 k) 91 1 x) 91 2 0) 91 3 0 = M3
      have f3 : fr (inB 91) M2 M3 := by rw [← hM3]; exact ((((fr.rf (M := M2)).put ⟨by omega, by omega⟩).put ⟨by omega, by omega⟩).put ⟨by omega, by omega⟩).put ⟨by omega, by omega⟩
      have g3 : frW 609 649 N2 (sI N2 123 610 x) := frW.rf.put (by omega) (by omega)
      have v0 : M3.1 91 0 = k := by rw [← hM3, sI_n (by omega), sI_n (by omega), sI_n (by omega), sI_s]
      have v1 : M3.1 91 1 = x := by rw [← hM3, sI_n (by omega), sI_n (by omega), sI_s]
      have v2 : M3.1 91 2 = 0 := by rw [← hM3, sI_n (by omega), sI_s]
      have v3 : M3.1 91 3 = 0 := by rw [← hM3, sI_s]
      have e123 : N2.1 123 = (sI N1 123 609 k).1 123 := b4.2.1 123 (by omega)
      have e123' : N1.1 123 = N.1 123 := a4.2.1 123 (by omega)
      have w0 : (sI N2 123 610 x).1 123 609 = k := by rw [sI_n (by omega), e123, sI_s]
      have w1 : (sI N2 123 610 x).1 123 610 = x := sI_s
      have w2 : (sI N2 123 610 x).1 123 611 = 0 := by rw [sI_n (by omega), e123, sI_n (by omega), e123']; exact hz.1
      have w3 : (sI N2 123 610 x).1 123 612 = 0 := by rw [sI_n (by omega), e123, sI_n (by omega), e123']; exact hz.2
      have i10 : (10 : Int32).toInt = 10 := by decide
      have i40 : (40 : Int32).toInt = 40 := by decide
      have i6 : (6 : Int32).toInt = 6 := by decide
      have h4 : PS t tx M3 (sI N2 123 610 x) p2 0 0 := by
        obtain ⟨hT, hC, hR, hp, h6, h7, h58⟩ := h2
        have e90 : M3.1 90 = M2.1 90 := f3.2 90 (fun z => by unfold inB at z; omega)
        refine ⟨hT, ⟨by rw [e90]; exact hC.1, fun k hk => by rw [f3.2 99 (fun z => by unfold inB at z; omega)]; exact hC.2 k hk⟩, ⟨by rw [sI_o (by omega)]; exact hR.1, fun k hk => by rw [sI_o (by omega)]; exact hR.2 k hk⟩, hp, by rw [e90]; exact h6, by rw [sI_o (by omega)]; exact h7, by rw [e90, sI_o (by omega)]; exact h58, ?_, ?_⟩
        · refine ⟨by rw [VC_0 _ _ (by omega), v2]; rfl, by omega, by rw [VC_0 _ _ (by omega), v3]; rfl, by omega, ?_, ?_, fun k hk => by omega, fun i hi => by omega⟩
          · rw [VC_0 _ _ (by omega), v0]
            rw [t_le, i10] at kl
            rw [t_le, i40] at kh
            exact ⟨kl, kh⟩
          · rw [VC_0 _ _ (by omega), v1]
            rw [t_le, i2] at xl
            rw [t_le, i6] at xh
            exact ⟨xl, xh⟩
        · refine ⟨?_, ?_, ?_, ?_, fun k hk => by omega, fun i hi => by omega⟩
          · rw [VC_0 _ _ (by omega), v0]; exact w0.symm
          · rw [VC_0 _ _ (by omega), v1]; exact w1.symm
          · rw [VC_0 _ _ (by omega), v2]; exact w2.symm
          · rw [VC_0 _ _ (by omega), v3]; exact w3.symm
      exact IR.mono (frB_C f3) (frW_R g3) (Nat.le_refl _) (endI h4)
end THW
