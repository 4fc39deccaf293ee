/-! the items of a text, on both sides at once -/
theorem b2_dec {p q : Prop} [Decidable p] [Decidable q] (h : p ↔ q) : b2 p = bI (decide q) := by
  by_cases c : q
  · rw [b2_t (h.mpr c), decide_eq_true c]; rfl
  · rw [b2_f (fun z => c (h.mp z)), decide_eq_false c]; rfl
section ITM
variable {t : Nat} {tx : Nat → Int32}
def nOK (t : Nat) (tx : Nat → Int32) (s : Nat) (lo hi : Int32) : Bool := decide ((1 ≤ dg t tx s - s ∧ dg t tx s - s ≤ 2) ∧ lo ≤ vl tx s (dg t tx s) ∧ vl tx s (dg t tx s) ≤ hi)
theorem c_isNumber {M : mm} {s : Nat} {lo hi : Int32} (hT : okT t tx) (hs : s ≤ t) (h4 : M.1 90 4 = kd t tx s) (h7 : kd t tx s = 2 → M.1 90 7 = vl tx s (dg t tx s)) : fX9_isNumber 90 lo hi (lay M) = some (bI (nOK t tx s lo hi), lay M) := by
  unfold fX9_isNumber fX9_isNumber_24 fX9_isNumber_25 nOK
  rw [o_90, Option.bind_some, i_90_4, Option.bind_some, h4]
  by_cases c : kd t tx s = 2
  · have c' := (kd_2 hT hs).mp c
    rw [if_pos c, i_90_7, Option.bind_some, h7 c, f10_within, gx_bd_some]
    by_cases c2 : lo ≤ vl tx s (dg t tx s) ∧ vl tx s (dg t tx s) ≤ hi
    · rw [b2_t c2, if_neg (by decide), decide_eq_true ⟨c', c2⟩]; rfl
    · rw [b2_f c2, if_pos rfl, decide_eq_false (fun z => c2 z.2)]; rfl
  · rw [if_neg c, decide_eq_false (fun z => c ((kd_2 hT hs).mpr z.1))]; rfl
theorem r_takesNumber {N : mm} {p : Nat} {lo hi : Int32} (hT : okT t tx) (hr : RT N t tx) (hp : p ≤ t) (h7 : N.1 122 7 = nI p) : ∃ N', fX11_takesNumber 122 lo hi (lay N) = some (bI (nOK t tx (bl t tx p) lo hi), lay N') ∧ F9 N N' ∧ N'.1 122 7 = nI (dg t tx (bl t tx p)) ∧ N'.1 122 8 = nI (bl t tx p) ∧ (nOK t tx (bl t tx p) lo hi = true → N'.1 122 9 = vl tx (bl t tx p) (dg t tx (bl t tx p))) := by
  have h150 := hT.1
  obtain ⟨N1, a1, a2, a3, a4⟩ := r_blanks hT hp hr h7
  have hs := run_ge (tx := tx) (lo := 32) (hi := 32) hp
  unfold bl
  generalize run t tx 32 32 p = s at *
  have hG := run_ge (tx := tx) (lo := 48) (hi := 57) hs.2
  obtain ⟨N2, b1, b2, b3, b4, b5⟩ := r_figs (lo := lo) (hi := hi) (s := s) hT (t - s) s gx_N (sI N1 122 9 0) (by omega) (Nat.le_refl _) (by unfold gx_N; omega) ((hr.f9 a2).f9 (F9.put (by omega))) (by rw [sI_n (by omega)]; exact a3) (by rw [sI_n (by omega)]; exact a4) (by rw [sI_s]; unfold vlN; rw [if_pos rfl])
  unfold fX11_takesNumber
  rw [o_122, Option.bind_some, a1, gx_bd_some, pi_122_9, Option.bind_some, b1]
  refine ⟨N2, ?_, (a2.tr (F9.put (by omega))).tr b2, b3, b4, fun z => ?_⟩
  · refine congrArg (fun x => some (x, lay N2)) (b2_dec ?_)
    show ((1 ≤ dg t tx s - s ∧ dg t tx s - s ≤ 2) ∧ lo ≤ vlN tx s (dg t tx s) ∧ vlN tx s (dg t tx s) ≤ hi) ↔ _
    constructor
    · intro z; rw [vlN_vl (by omega)] at z; exact z
    · intro z; rw [vlN_vl (by omega)]; exact z
  · have z' := (of_decide_eq_true z).1
    rw [b5]
    exact vlN_vl (show s < dg t tx s by omega)
/-- where both stand -/
def PS (t : Nat) (tx : Nat → Int32) (M N : mm) (p n np : Nat) : Prop := okT t tx ∧ CT M t tx ∧ RT N t tx ∧ p ≤ t ∧ M.1 90 6 = nI p ∧ N.1 122 7 = nI p ∧ M.1 90 5 = N.1 122 8 ∧ okV (VC M.1 91) n np ∧ eqv n np (VC M.1 91) (VR N.1 609)
def FC (M M' : mm) : Prop := M'.2 = M.2 ∧ (∀ a, a < 90 ∨ a = 99 ∨ 101 ≤ a → M'.1 a = M.1 a) ∧ ∀ j, j < 4 → M'.1 90 j = M.1 90 j
def FR (N N' : mm) : Prop := N'.2 = N.2 ∧ (∀ a, a ≠ 122 → a ≠ 123 → N'.1 a = N.1 a) ∧ (∀ j, j ≠ 7 → j ≠ 8 → j ≠ 9 → N'.1 122 j = N.1 122 j) ∧ ∀ j, j < 609 ∨ 649 ≤ j → N'.1 123 j = N.1 123 j
theorem FC.rf {M : mm} : FC M M := ⟨rfl, fun _ _ => rfl, fun _ _ => rfl⟩
theorem FC.tr {M M' M'' : mm} (h : FC M M') (h2 : FC M' M'') : FC M M'' := ⟨h2.1.trans h.1, fun a ha => (h2.2.1 a ha).trans (h.2.1 a ha), fun j hj => (h2.2.2 j hj).trans (h.2.2 j hj)⟩
theorem FR.rf {N : mm} : FR N N := ⟨rfl, fun _ _ _ => rfl, fun _ _ _ _ => rfl, fun _ _ => rfl⟩
theorem FR.tr {N N' N'' : mm} (h : FR N N') (h2 : FR N' N'') : FR N N'' := ⟨h2.1.trans h.1, fun a p q => (h2.2.1 a p q).trans (h.2.1 a p q), fun j p q r => (h2.2.2.1 j p q r).trans (h.2.2.1 j p q r), fun j hj => (h2.2.2.2 j hj).trans (h.2.2.2 j hj)⟩
theorem F4.C {M M' : mm} (h : F4 M M') : FC M M' := ⟨h.1, fun a ha => h.2.1 a (by omega), h.2.2⟩
theorem F9.R {N N' : mm} (h : F9 N N') : FR N N' := ⟨h.1, fun a p _ => h.2.1 a p, h.2.2, fun j _ => by rw [h.2.1 123 (by omega)]⟩
theorem frB_C {M M' : mm} (h : fr (inB 91) M M') : FC M M' := ⟨h.1, fun a ha => h.2 a (fun z => by unfold inB at z; omega), fun j _ => by rw [h.2 90 (fun z => by unfold inB at z; omega)]⟩
theorem frS_C {M M' : mm} (h : fr (inBS 91 100) M M') : FC M M' := ⟨h.1, fun a ha => h.2 a (fun z => by unfold inBS at z; omega), fun j _ => by rw [h.2 90 (fun z => by unfold inBS at z; omega)]⟩
theorem frW_R {N N' : mm} (h : frW 609 649 N N') : FR N N' := ⟨h.1, fun a _ q => h.2.1 a q, fun j _ _ _ => by rw [h.2.1 122 (by omega)], fun j hj => h.2.2 j hj⟩
theorem F4.V {M M' : mm} (h : F4 M M') : VC M'.1 91 = VC M.1 91 := VC_eq (fun a _ _ => h.2.1 a (by omega))
theorem F9.V {N N' : mm} (h : F9 N N') : VR N'.1 609 = VR N.1 609 := by unfold VR; rw [h.2.1 123 (by omega)]
theorem numJ {M N : mm} {p n np : Nat} {lo hi : Int32} (h : PS t tx M N p n np) : ∃ (ok : Bool) (M' N' : mm) (v : Int32), fX9_nextNumber 90 lo hi (lay M) = some (bI ok, lay M') ∧ fX11_takesNumber 122 lo hi (lay N) = some (bI ok, lay N') ∧ F4 M M' ∧ F9 N N' ∧ M'.1 90 5 = N'.1 122 8 ∧ (ok = true → ∃ p', p < p' ∧ PS t tx M' N' p' n np ∧ M'.1 90 7 = v ∧ N'.1 122 9 = v ∧ lo ≤ v ∧ v ≤ hi) := by
  obtain ⟨hT, hc, hr, hp, h6, h7, h58, hok, he⟩ := h
  obtain ⟨M1, a1, a2, a3, a4, a5, a6⟩ := c_token hT hc hp h6
  obtain ⟨N1, b1, b2, b3, b4, b5⟩ := r_takesNumber (lo := lo) (hi := hi) hT hr hp h7
  have hs := run_ge (tx := tx) (lo := 32) (hi := 32) hp
  have hs1 : p ≤ bl t tx p := hs.1
  have hs2 : bl t tx p ≤ t := hs.2
  refine ⟨nOK t tx (bl t tx p) lo hi, M1, N1, vl tx (bl t tx p) (dg t tx (bl t tx p)), ?_, b1, a2, b2, by rw [a3, b4], fun z => ?_⟩
  · unfold fX9_nextNumber
    rw [o_90, Option.bind_some, a1, gx_bd_some, c_isNumber hT hs2 a4 a6, gx_bd_some, ret_bI]
  · have z' := of_decide_eq_true z
    have k2 := (kd_2 hT hs2).mpr z'.1
    have hG := run_ge (tx := tx) (lo := 48) (hi := 57) hs2
    have hG2 : dg t tx (bl t tx p) ≤ t := hG.2
    exact ⟨dg t tx (bl t tx p), by omega, ⟨hT, hc.f4 a2, hr.f9 b2, hG2, by rw [a5, en_2 hT hs2 k2], b3, by rw [a3, b4], by rw [a2.V]; exact hok, by rw [a2.V, b2.V]; exact he⟩, a6 k2, b5 z, z'.2.1, z'.2.2⟩
theorem r_takesEnd {N : mm} {p : Nat} (hT : okT t tx) (hr : RT N t tx) (hp : p ≤ t) (h7 : N.1 122 7 = nI p) : ∃ N', fX11_takesEnd 122 (lay N) = some (bI (decide (tx (bl t tx p) = 59)), lay N') ∧ F9 N N' ∧ N'.1 122 7 = nI (bl t tx p + 1) ∧ N'.1 122 8 = nI (bl t tx p) := by
  have h150 := hT.1
  obtain ⟨N1, a1, a2, a3, a4⟩ := r_blanks hT hp hr h7
  have hs := run_ge (tx := tx) (lo := 32) (hi := 32) hp
  unfold bl
  generalize run t tx 32 32 p = s at *
  unfold fX11_takesEnd fX11_takesEnd_32
  rw [o_122, Option.bind_some, a1, gx_bd_some, i_122_7, Option.bind_some, a3, nI_1, pi_122_7, Option.bind_some, i_122_8, Option.bind_some, sI_n (by omega), a4, r_byte ((hr.f9 a2).f9 (F9.put (by omega))) hT.1 hT.2.1 (by omega), gx_bd_some]
  refine ⟨_, ?_, a2.tr (F9.put (by omega)), sI_s, by rw [sI_n (by omega)]; exact a4⟩
  by_cases c : tx s = 59
  · rw [if_pos c, decide_eq_true c]; rfl
  · rw [if_neg c, decide_eq_false c]; rfl
theorem endJ {M N : mm} {p n np : Nat} (h : PS t tx M N p n np) : ∃ (ok : Bool) (M' N' : mm), (gx_bd (fX9_nextSemicolon 90 (lay M)) fun x h => gx_ret .boolean x h) = some (bI ok, lay M') ∧ fX11_readsItem_90 122 1 (lay N) = some (bI ok, lay N') ∧ F4 M M' ∧ F9 N N' ∧ M'.1 90 5 = N'.1 122 8 ∧ (ok = true → ∃ p', p < p' ∧ PS t tx M' N' p' n np) := by
  obtain ⟨hT, hc, hr, hp, h6, h7, h58, hok, he⟩ := h
  obtain ⟨M1, a1, a2, a3, a4, a5, a6⟩ := c_token hT hc hp h6
  obtain ⟨N1, b1, b2, b3, b4⟩ := r_takesEnd hT hr hp h7
  have hs := run_ge (tx := tx) (lo := 32) (hi := 32) hp
  have hs1 : p ≤ bl t tx p := hs.1
  have hs2 : bl t tx p ≤ t := hs.2
  refine ⟨decide (tx (bl t tx p) = 59), M1, N1, ?_, ?_, a2, b2, by rw [a3, b4], fun z => ?_⟩
  · unfold fX9_nextSemicolon fX9_nextSemicolon_17
    rw [o_90, Option.bind_some, a1, gx_bd_some, i_90_4, Option.bind_some, a4]
    by_cases c : tx (bl t tx p) = 59
    · rw [if_pos ((kd_3 hT hs2).mpr c), decide_eq_true c, show gx_ret .boolean 1 (lay M1) = some (bI true, lay M1) from rfl, gx_bd_some, ret_bI]
    · rw [if_neg (fun y => c ((kd_3 hT hs2).mp y)), decide_eq_false c, show gx_ret .boolean 0 (lay M1) = some (bI false, lay M1) from rfl, gx_bd_some, ret_bI]
  · unfold fX11_readsItem_90 fX11_readsItem_106 fX11_readsItem_107
    rw [if_neg (by decide), b1, gx_bd_some]
    by_cases c : tx (bl t tx p) = 59
    · rw [decide_eq_true c, if_neg (by decide)]; rfl
    · rw [decide_eq_false c, if_pos (show bI false = 0 from rfl)]; rfl
  · have z' := of_decide_eq_true z
    obtain ⟨e1, e2⟩ := en_3 hT hs2 z'
    exact ⟨bl t tx p + 1, by omega, hT, hc.f4 a2, hr.f9 b2, by omega, by rw [a5, e1], b3, by rw [a3, b4], by rw [a2.V]; exact hok, by rw [a2.V, b2.V]; exact he⟩
/-- an item's end on both sides -/
def IR (t : Nat) (tx : Nat → Int32) (M N : mm) (p : Nat) (fc fm : Option (Int32 × gx_H)) : Prop := ∃ (ok : Bool) (M' N' : mm), fc = some (bI ok, lay M') ∧ fm = some (bI ok, lay N') ∧ FC M M' ∧ FR N N' ∧ M'.1 90 5 = N'.1 122 8 ∧ (ok = true → ∃ p' n' np', p < p' ∧ PS t tx M' N' p' n' np')
theorem IR.mono {M M1 N N1 : mm} {p p1 : Nat} {fc fm : Option (Int32 × gx_H)} (f : FC M M1) (g : FR N N1) (hp : p ≤ p1) (h : IR t tx M1 N1 p1 fc fm) : IR t tx M N p fc fm := by
  obtain ⟨ok, M', N', a1, a2, a3, a4, a5, a6⟩ := h
  exact ⟨ok, M', N', a1, a2, f.tr a3, g.tr a4, a5, fun z => by obtain ⟨p', n', np', y1, y2⟩ := a6 z; exact ⟨p', n', np', by omega, y2⟩⟩
theorem RI0 {h : gx_H} : fX11_readsItem_90 122 0 h = some (0, h) := by
  unfold fX11_readsItem_90 fX11_readsItem_106 fX11_readsItem_107
  rw [if_pos rfl]
  rfl
/-- a refusal -/
theorem IR.no {M N M' N' : mm} {p : Nat} {fc fm : Option (Int32 × gx_H)} (h1 : fc = some (0, lay M')) (h2 : fm = some (0, lay N')) (f : FC M M') (g : FR N N') (e : M'.1 90 5 = N'.1 122 8) : IR t tx M N p fc fm := ⟨false, M', N', h1, h2, f, g, e, fun z => by cases z⟩
theorem endI {M N : mm} {p n np : Nat} (h : PS t tx M N p n np) : IR t tx M N p (gx_bd (fX9_nextSemicolon 90 (lay M)) fun x h => gx_ret .boolean x h) (fX11_readsItem_90 122 1 (lay N)) := by
  obtain ⟨ok, M', N', a1, a2, a3, a4, a5, a6⟩ := endJ h
  exact ⟨ok, M', N', a1, a2, a3.C, a4.R, a5, fun z => by obtain ⟨p', y1, y2⟩ := a6 z; exact ⟨p', n, np, y1, y2⟩⟩
theorem ret0 (h : gx_H) : gx_ret .boolean 0 h = some (0, h) := rfl
theorem ret1 (h : gx_H) : gx_ret .boolean 1 h = some (1, h) := rfl
theorem VR609 {N : mm} {j : Nat} : VR N.1 609 j = N.1 123 (609 + j) := rfl
theorem PS.V0 {M N : mm} {p n np : Nat} (h : PS t tx M N p n np) : M.1 91 0 = VC M.1 91 0 ∧ N.1 123 609 = VC M.1 91 0 ∧ M.1 91 1 = VC M.1 91 1 ∧ N.1 123 610 = VC M.1 91 1 ∧ M.1 91 2 = nI n ∧ N.1 123 611 = nI n ∧ M.1 91 3 = nI np ∧ N.1 123 612 = nI np := by
  obtain ⟨hT, hc, hr, hp, h6, h7, h58, hok, he⟩ := h
  exact ⟨(VC_0 _ _ (by omega)).symm, he.1.symm, (VC_0 _ _ (by omega)).symm, he.2.1.symm, by rw [← VC_0 M.1 91 (by omega)]; exact hok.1, by rw [← hok.1]; exact he.2.2.1.symm, by rw [← VC_0 M.1 91 (by omega)]; exact hok.2.2.1, by rw [← hok.2.2.1]; exact he.2.2.2.1.symm⟩
/-- both boards changed alike -/
theorem PS.brd {M N M' N' : mm} {p n np n' np' : Nat} (h : PS t tx M N p n np) (f : FC M M') (g : FR N N') (e90 : M'.1 90 = M.1 90) (e122 : N'.1 122 = N.1 122) (hok : okV (VC M'.1 91) n' np') (he : eqv n' np' (VC M'.1 91) (VR N'.1 609)) : PS t tx M' N' p n' np' := by
  obtain ⟨hT, hc, hr, hp, h6, h7, h58, _, _⟩ := h
  exact ⟨hT, ⟨by rw [e90]; exact hc.1, fun k hk => by rw [f.2.1 99 (by omega)]; exact hc.2 k hk⟩, ⟨by rw [e122]; exact hr.1, fun k hk => by rw [g.2.1 125 (by omega) (by omega)]; exact hr.2 k hk⟩, hp, by rw [e90]; exact h6, by rw [e122]; exact h7, by rw [e90, e122]; exact h58, hok, he⟩
theorem linkI {M N : mm} {p n np : Nat} (h : PS t tx M N p n np) : IR t tx M N p (fX9_linkItem 90 (lay M)) (gx_bd (fX11_readsLink 122 (lay N)) fun x12 h11 => fX11_readsItem_90 122 x12 h11) := by
  have h58 := h.2.2.2.2.2.2.1
  have hn6 := h.2.2.2.2.2.2.2.1.2.1
  have hp4 := h.2.2.2.2.2.2.2.1.2.2.2.1
  obtain ⟨v0, w0, v1, w1, v2, w2, v3, w3⟩ := h.V0
  unfold fX9_linkItem fX11_readsLink fX9_linkItem_21 fX9_linkItem_60 fX9_linkItem_90 fX11_readsLink_22 fX11_readsLink_61 fX11_readsLink_92
  rw [o_90, Option.bind_some, r_90_1, Option.bind_some, bi2 brd_91, Option.bind_some, v2, o_122, Option.bind_some, r_122_0, Option.bind_some, show gx_aI 0 (lay N) 123 611 = some (N.1 123 611) from ra (k := 611) (by omega), Option.bind_some, w2]
  by_cases c6 : n = 6
  · rw [if_pos (show (6 : Int32) ≤ nI n from nI_le (a := 6) (by omega) (by omega)), if_pos (show nI n = 6 from by rw [c6]; rfl)]
    simp only [ret0, gx_bd_some, RI0]
    exact IR.no rfl rfl FC.rf FR.rf h58
  rw [if_neg (show ¬ (6 : Int32) ≤ nI n from nI_ge (b := 6) (by omega) (by omega)), if_neg (show ¬ nI n = 6 from ne_nI (b := 6) (by omega) (by omega) c6)]
  obtain ⟨ok1, M1, N1, k, a1, a2, a3, a4, a5, a6⟩ := numJ (lo := 0) (hi := 5) h
  rw [a1, gx_bd_some, a2, gx_bd_some]
  cases ok1 with
  | false =>
    rw [if_pos (show bI false = 0 from rfl), if_pos (show bI false = 0 from rfl)]
    simp only [ret0, gx_bd_some, RI0]
    exact IR.no rfl rfl a3.C a4.R a5
  | true =>
    obtain ⟨p1, hp1, h1, k7, k9, kl, kh⟩ := a6 rfl
    refine IR.mono a3.C a4.R (show p ≤ p1 by omega) ?_
    obtain ⟨v0, w0, v1, w1, v2, w2, v3, w3⟩ := h1.V0
    rw [if_neg (show ¬ bI true = 0 by decide), if_neg (show ¬ bI true = 0 by decide), i_90_7, Option.bind_some, k7, r_90_1, Option.bind_some, bi0 brd_91, Option.bind_some, v0, i_122_9, Option.bind_some, k9, r_122_0, Option.bind_some, show gx_aI 0 (lay N1) 123 609 = some (N1.1 123 609) from ra (k := 609) (by omega), Option.bind_some, w0]
    generalize hV : VC M1.1 91 = V at *
    obtain ⟨ok2, M2, N2, x, b1, b2, b3, b4, b5, b6⟩ := numJ (lo := 1) (hi := V 0 - 1) h1
    rw [b1, gx_bd_some, b2, gx_bd_some]
    cases ok2 with
    | false =>
      rw [if_pos (show bI false = 0 from rfl), if_pos (show bI false = 0 from rfl)]
      simp only [ret0, gx_bd_some, RI0]
      exact IR.no rfl rfl b3.C b4.R b5
    | true =>
      obtain ⟨p2, hp2, h2, x7, x9, xl, xh⟩ := b6 rfl
      refine IR.mono b3.C b4.R (show p1 ≤ p2 by omega) ?_
      have hV2 : VC M2.1 91 = V := by rw [b3.V, hV]
      obtain ⟨v0, w0, v1, w1, v2, w2, v3, w3⟩ := h2.V0
      have hl1 : fX0_linkOn 91 x (lay M2) = some (lkI (lkG (M2.1 (91 + 2)) x n 0), lay M2) := c_linkOn brd_91 x v2 hn6
      have hl2 : fX11_linkFrom 122 609 x (lay N2) = some (lkI (lkG (fun k => VR N2.1 609 (10 + k)) x n 0), lay N2) := r_linkFrom (r := 609) x (by omega) w2 hn6
      have hle : lkG (M2.1 (91 + 2)) x n 0 = lkG (fun k => VR N2.1 609 (10 + k)) x n 0 := lkG_eq (fun j h1 hj => by
        rw [← VC_2 M2.1 91 (show j < 6 by omega), (h2.2.2.2.2.2.2.2.2.2.2.2.2.1 j (by omega)).2.1])
      rw [if_neg (show ¬ bI true = 0 by decide), if_neg (show ¬ bI true = 0 by decide), r_90_1, Option.bind_some, i_90_7, Option.bind_some, x7, hl1, gx_bd_some, i_122_9, Option.bind_some, x9, hl2, gx_bd_some, ← hle]
      have h58b := h2.2.2.2.2.2.2.1
      cases hq : lkG (M2.1 (91 + 2)) x n 0 with
      | some q =>
        have hq2 := lkG_some hq
        rw [if_neg (show ¬ lkI (some q) = -1 from lkI_some (by omega)), if_neg (show ¬ lkI (some q) < 0 from nI_pos (by omega))]
        simp only [ret0, gx_bd_some, RI0]
        exact IR.no rfl rfl FC.rf FR.rf h58b
      | none =>
        rw [if_pos (show lkI none = -1 from rfl), if_pos (show lkI none < 0 by decide), i_90_7, Option.bind_some, x7, r_90_1, Option.bind_some, bi0 brd_91, Option.bind_some, v0, i_122_9, Option.bind_some, x9, r_122_0, Option.bind_some, show gx_aI 0 (lay N2) 123 609 = some (N2.1 123 609) from ra (k := 609) (by omega), Option.bind_some, w0, hV2]
        obtain ⟨ok3, M3, N3, y, c1, c2, c3, c4, c5, c6'⟩ := numJ (lo := 0) (hi := V 0) h2
        rw [c1, gx_bd_some, c2, gx_bd_some]
        cases ok3 with
        | false =>
          rw [if_pos (show bI false = 0 from rfl), if_pos (show bI false = 0 from rfl)]
          simp only [ret0, gx_bd_some, RI0]
          exact IR.no rfl rfl c3.C c4.R c5
        | true =>
          obtain ⟨p3, hp3, h3, y7, y9, yl, yh⟩ := c6' rfl
          refine IR.mono c3.C c4.R (show p2 ≤ p3 by omega) ?_
          have hV3 : VC M3.1 91 = V := by rw [c3.V, hV2]
          rw [if_neg (show ¬ bI true = 0 by decide), if_neg (show ¬ bI true = 0 by decide), i_90_7, Option.bind_some, y7, i_122_9, Option.bind_some, y9]
          have h58c := h3.2.2.2.2.2.2.1
          by_cases cy : y = x
          · rw [if_pos cy, if_pos cy]
            simp only [ret0, gx_bd_some, RI0]
            exact IR.no rfl rfl FC.rf FR.rf h58c
          rw [if_neg cy, if_neg cy, r_90_1, Option.bind_some, Option.bind_some, Option.bind_some]
          obtain ⟨v0, w0, v1, w1, v2, w2, v3, w3⟩ := h3.V0
          obtain ⟨M4, d1, d2, d3⟩ := c_addLink (M := M3) (n := n) brd_91 v2 (by omega) k x y
          obtain ⟨N4, e1, e2, e3⟩ := r_addsLink (M := N3) (r := 609) (n := n) (by omega) w2 (by omega) k x y
          have e1' : fX11_addsLink 122 609 k x y (lay N3) = some ((), lay N4) := e1
          rw [d1, gx_bd_some, e1', gx_bd_some, ret1, gx_bd_some]
          have hok3 := h3.2.2.2.2.2.2.2.1
          have he3 := h3.2.2.2.2.2.2.2.2
          rw [hV3] at hok3 he3
          have d2' : VC M4.1 91 = lkU V n k x y := by rw [d2, hV3]; rfl
          have e2' : VR N4.1 609 = lkU (VR N3.1 609) n k x y := e2
          have hy : bn y 0 (V 0).toInt := ⟨by rw [t_le, i0] at yl; exact yl, by rw [t_le] at yh; exact yh⟩
          have h4 : PS t tx M4 N4 p3 (n + 1) np := h3.brd (frB_C d3) (frW_R e3) (d3.2 90 (fun z => by unfold inB at z; omega)) (e3.2.1 122 (by omega)) (by rw [d2']; exact okV_link hok3 (by omega) hy) (by rw [d2', e2']; exact eqv_link he3 (by omega) hp4)
          exact IR.mono (frB_C d3) (frW_R e3) (Nat.le_refl _) (endI h4)
theorem playerI {M N : mm} {p n np : Nat} (h : PS t tx M N p n np) : IR t tx M N p (fX9_playerItem 90 (lay M)) (gx_bd (fX11_readsPlayer 122 (lay N)) fun x12 h11 => fX11_readsItem_90 122 x12 h11) := by
  have h58 := h.2.2.2.2.2.2.1
  have hn6 := h.2.2.2.2.2.2.2.1.2.1
  have hp4 := h.2.2.2.2.2.2.2.1.2.2.2.1
  obtain ⟨v0, w0, v1, w1, v2, w2, v3, w3⟩ := h.V0
  unfold fX9_playerItem fX11_readsPlayer fX9_playerItem_20 fX11_readsPlayer_21
  rw [o_90, Option.bind_some, r_90_1, Option.bind_some, bi3 brd_91, Option.bind_some, v3, o_122, Option.bind_some, r_122_0, Option.bind_some, show gx_aI 0 (lay N) 123 612 = some (N.1 123 612) from ra (k := 612) (by omega), Option.bind_some, w3]
  by_cases c6 : np = 4
  · rw [if_pos (show (4 : Int32) ≤ nI np from nI_le (a := 4) (by omega) (by omega)), if_pos (show nI np = 4 from by rw [c6]; rfl)]
    simp only [ret0, gx_bd_some, RI0]
    exact IR.no rfl rfl FC.rf FR.rf h58
  rw [if_neg (show ¬ (4 : Int32) ≤ nI np from nI_ge (b := 4) (by omega) (by omega)), if_neg (show ¬ nI np = 4 from ne_nI (b := 4) (by omega) (by omega) c6)]
  obtain ⟨ok1, M1, N1, k, a1, a2, a3, a4, a5, a6⟩ := numJ (lo := 0) (hi := 5) h
  rw [a1, gx_bd_some, a2, gx_bd_some]
  cases ok1 with
  | false =>
    rw [if_pos (show bI false = 0 from rfl), if_pos (show bI false = 0 from rfl)]
    simp only [ret0, gx_bd_some, RI0]
    exact IR.no rfl rfl a3.C a4.R a5
  | true =>
    obtain ⟨p1, hp1, h1, k7, k9, kl, kh⟩ := a6 rfl
    refine IR.mono a3.C a4.R (show p ≤ p1 by omega) ?_
    rw [if_neg (show ¬ bI true = 0 by decide), if_neg (show ¬ bI true = 0 by decide), r_90_1, Option.bind_some, i_90_7, Option.bind_some, k7, i_122_9, Option.bind_some, k9]
    obtain ⟨v0, w0, v1, w1, v2, w2, v3, w3⟩ := h1.V0
    obtain ⟨M4, d1, d2, d3⟩ := c_addPlayer (M := M1) (np := np) brd_91 v3 (by omega) k
    obtain ⟨N4, e1, e2, e3⟩ := r_addsPlayer (M := N1) (r := 609) (np := np) (by omega) w3 (by omega) k
    have e1' : fX11_addsPlayer 122 609 k (lay N1) = some ((), lay N4) := e1
    rw [d1, gx_bd_some, e1', gx_bd_some, ret1, gx_bd_some]
    have hok3 := h1.2.2.2.2.2.2.2.1
    have he3 := h1.2.2.2.2.2.2.2.2
    have h4 : PS t tx M4 N4 p1 n (np + 1) := h1.brd (frB_C d3) (frW_R e3) (d3.2 90 (fun z => by unfold inB at z; omega)) (e3.2.1 122 (by omega)) (by rw [d2]; exact okV_player hok3 (by omega)) (by rw [d2, e2]; exact eqv_player he3 hn6 (by omega))
    exact IR.mono (frB_C d3) (frW_R e3) (Nat.le_refl _) (endI h4)
theorem setI {M N : mm} {p n np : Nat} (h : PS t tx M N p n np) : IR t tx M N p (fX9_setItem 90 (lay M)) (gx_bd (fX11_readsSet 122 (lay N)) fun x12 h11 => fX11_readsItem_90 122 x12 h11) := by
  have hn6 := h.2.2.2.2.2.2.2.1.2.1
  have hp4 := h.2.2.2.2.2.2.2.1.2.2.2.1
  obtain ⟨v0, w0, v1, w1, v2, w2, v3, w3⟩ := h.V0
  unfold fX9_setItem fX11_readsSet
  rw [o_90, Option.bind_some, r_90_1, Option.bind_some, bi3 brd_91, Option.bind_some, v3, o_122, Option.bind_some, r_122_0, Option.bind_some, show gx_aI 0 (lay N) 123 612 = some (N.1 123 612) from ra (k := 612) (by omega), Option.bind_some, w3]
  obtain ⟨ok1, M1, N1, k, a1, a2, a3, a4, a5, a6⟩ := numJ (lo := 0) (hi := nI np - 1) h
  rw [a1, gx_bd_some, a2, gx_bd_some]
  cases ok1 with
  | false =>
    rw [if_pos (show bI false = 0 from rfl), if_pos (show bI false = 0 from rfl)]
    simp only [ret0, gx_bd_some, RI0]
    exact IR.no rfl rfl a3.C a4.R a5
  | true =>
    obtain ⟨p1, hp1, h1, k7, k9, kl, kh⟩ := a6 rfl
    refine IR.mono a3.C a4.R (show p ≤ p1 by omega) ?_
    obtain ⟨i, hi, rfl⟩ := in_k (k := np) (by omega) ⟨kl, kh⟩
    obtain ⟨v0, w0, v1, w1, v2, w2, v3, w3⟩ := h1.V0
    rw [if_neg (show ¬ bI true = 0 by decide), if_neg (show ¬ bI true = 0 by decide), i_90_7, Option.bind_some, k7, r_90_1, Option.bind_some, bi0 brd_91, Option.bind_some, v0, i_122_9, Option.bind_some, k9, r_122_0, Option.bind_some, show gx_aI 0 (lay N1) 123 609 = some (N1.1 123 609) from ra (k := 609) (by omega), Option.bind_some, w0]
    generalize hV : VC M1.1 91 = V at *
    obtain ⟨ok2, M2, N2, x, b1, b2, b3, b4, b5, b6⟩ := numJ (lo := 0) (hi := V 0) h1
    rw [b1, gx_bd_some, b2, gx_bd_some]
    cases ok2 with
    | false =>
      rw [if_pos (show bI false = 0 from rfl), if_pos (show bI false = 0 from rfl)]
      simp only [ret0, gx_bd_some, RI0]
      exact IR.no rfl rfl b3.C b4.R b5
    | true =>
      obtain ⟨p2, hp2, h2, x7, x9, xl, xh⟩ := b6 rfl
      refine IR.mono b3.C b4.R (show p1 ≤ p2 by omega) ?_
      have hV2 : VC M2.1 91 = V := by rw [b3.V, hV]
      rw [if_neg (show ¬ bI true = 0 by decide), if_neg (show ¬ bI true = 0 by decide), r_90_1, Option.bind_some, br9 brd_91, Option.bind_some, i_90_7, Option.bind_some, x7, bs6 brd_91 (show i < 4 by omega), Option.bind_some, r_122_0, Option.bind_some, i_122_9, Option.bind_some, x9, show (641 : Int32) = nI 641 from rfl, nI_add, rs (show 641 + i < 852 by omega), Option.bind_some, ret1, gx_bd_some]
      have hok := h2.2.2.2.2.2.2.2.1
      have he := h2.2.2.2.2.2.2.2.2
      rw [hV2] at hok he
      have hL := hok.2.2.2.2.1
      obtain ⟨l, hl, el⟩ := bn_nI (x := V 0) (n := 40) ⟨by have := hL.1; omega, hL.2⟩
      have hxb : 0 ≤ x.toInt ∧ x.toInt ≤ l := ⟨by rw [t_le, i0] at xl; exact xl, by rw [t_le, el, nI_toInt (by omega)] at xh; exact xh⟩
      obtain ⟨q, hq, rfl⟩ := bn_nI (x := x) (n := l) hxb
      have d2 : VC (sI M2 (91 + 6) i (nI q)).1 91 = upd V (32 + i) (nI q) := by
        show VC (up2 M2.1 (91 + 6) i (nI q)) 91 = _
        rw [VC_u6 _ _ _ (by omega), hV2]
      have e2 : VR (sI N2 123 (641 + i) (nI q)).1 609 = upd (VR N2.1 609) (32 + i) (nI q) := by
        rw [← VR_up N2.1 609 (32 + i) (nI q), show 609 + (32 + i) = 641 + i by omega]
        rfl
      have f3 : fr (inB 91) M2 (sI M2 (91 + 6) i (nI q)) := fr.rf.put ⟨by omega, by omega⟩
      have g3 : frW 609 649 N2 (sI N2 123 (641 + i) (nI q)) := frW.rf.put (by omega) (by omega)
      have h4 : PS t tx (sI M2 (91 + 6) i (nI q)) (sI N2 123 (641 + i) (nI q)) p2 n np := h2.brd (frB_C f3) (frW_R g3) (sI_o (by omega)) (sI_o (by omega)) (by rw [d2]; exact okV_u32 hok el hq hl (by omega)) (by rw [d2, e2]; exact eqv_upd he)
      exact IR.mono (frB_C f3) (frW_R g3) (Nat.le_refl _) (endI h4)
end ITM
