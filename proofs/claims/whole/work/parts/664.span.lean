/-! span: which squares one comes to -/
section SN
variable {d n np i T : Nat} {V : Nat → Int32}
def gB1 (f : Nat → Nat) (q : Nat) : Nat := if f q = 0 then 0 else 1
def hB1 (f : Nat → Nat) (q : Nat) : Bool := decide (¬ f q = 0)
def la (f : Nat → Nat) : Nat → Option Nat
  | 0 => none
  | m + 1 => if f m = 0 then la f m else some m
def dv : Nat → Int32
  | 0 => -1
  | m + 1 => nI m
theorem le0 {a : Nat} (h : a < 2147483648) : nI a ≤ 0 ↔ a = 0 := by
  rw [t_le, nI_toInt (by omega), i0]
  omega
theorem c_unlike {M : mm} {f : Nat → Nat} (hf : ∀ q, q ≤ 40 → M.1 116 q = nI (f q)) (hb : ∀ q, q ≤ 40 → f q ≤ 10000) : ∀ (m p F : Nat), p + m = 41 → m < F → fX5_unlikeSquares_4 F 101 (nI (sm (gB1 f) p)) (nI p) (lay M) = some (nI (sm (gB1 f) 41), lay M)
  | m, p, 0, _, hF => by omega
  | 0, p, F + 1, hp, _ => by
    have e : p = 41 := by omega
    subst e
    show bX5_unlikeSquares_4 (fX5_unlikeSquares_4 F) 101 (nI (sm (gB1 f) 41)) (nI 41) (lay M) = _
    unfold bX5_unlikeSquares_4
    rw [if_pos (show (40 : Int32) < nI 41 by decide)]
  | m + 1, p, F + 1, hp, hF => by
    show bX5_unlikeSquares_4 (fX5_unlikeSquares_4 F) 101 (nI (sm (gB1 f) p)) (nI p) (lay M) = _
    have hfp := hb p (by omega)
    have ih := c_unlike hf hb m (p + 1) F (by omega) (by omega)
    rw [show sm (gB1 f) (p + 1) = sm (gB1 f) p + gB1 f p from rfl] at ih
    unfold bX5_unlikeSquares_4 fX5_unlikeSquares_22
    rw [if_neg (show ¬ (40 : Int32) < nI p from by rw [show (40 : Int32) = nI 40 from rfl, t_lt, nI_toInt (by omega), nI_toInt (by omega)]; omega), r_101_2, Option.bind_some, aI_lay 41 (show isA 116 0 41 = true by decide) (by decide) (show p < 41 by omega) (by decide), Option.bind_some, hf p (by omega), nI_1, nI_1]
    by_cases z : f p = 0
    · rw [show gB1 f p = 0 from if_pos z, Nat.add_zero] at ih
      rw [if_pos ((le0 (by omega)).mpr z)]
      exact ih
    · rw [show gB1 f p = 1 from if_neg z] at ih
      rw [if_neg (fun y => z ((le0 (by omega)).mp y))]
      exact ih
theorem c_least {M : mm} {f : Nat → Nat} (hf : ∀ q, q ≤ 40 → M.1 116 q = nI (f q)) (hb : ∀ q, q ≤ 40 → f q ≤ 10000) : ∀ (m p F : Nat), p + m = 41 → m < F → fX5_leastSquare_2 F 101 (nI p) (lay M) = some (lkI (fx (hB1 f) m p), lay M)
  | m, p, 0, _, hF => by omega
  | 0, p, F + 1, hp, _ => by
    have e : p = 41 := by omega
    subst e
    show bX5_leastSquare_2 (fX5_leastSquare_2 F) 101 (nI 41) (lay M) = _
    unfold bX5_leastSquare_2
    rw [if_pos (show (40 : Int32) < nI 41 by decide)]
    rfl
  | m + 1, p, F + 1, hp, hF => by
    show bX5_leastSquare_2 (fX5_leastSquare_2 F) 101 (nI p) (lay M) = _
    have hfp := hb p (by omega)
    have ih := c_least hf hb m (p + 1) F (by omega) (by omega)
    unfold bX5_leastSquare_2 fx
    rw [if_neg (show ¬ (40 : Int32) < nI p from by rw [show (40 : Int32) = nI 40 from rfl, t_lt, nI_toInt (by omega), nI_toInt (by omega)]; omega), r_101_2, Option.bind_some, aI_lay 41 (show isA 116 0 41 = true by decide) (by decide) (show p < 41 by omega) (by decide), Option.bind_some, hf p (by omega), nI_1]
    by_cases z : f p = 0
    · rw [if_pos ((le0 (by omega)).mpr z), if_neg (show ¬ hB1 f p = true from fun y => of_decide_eq_true y z)]
      exact ih
    · rw [if_neg (fun y => z ((le0 (by omega)).mp y)), if_pos (show hB1 f p = true from decide_eq_true z)]
      rfl
theorem c_greatest {M : mm} {f : Nat → Nat} (hf : ∀ q, q ≤ 40 → M.1 116 q = nI (f q)) (hb : ∀ q, q ≤ 40 → f q ≤ 10000) : ∀ (m F : Nat), m ≤ 41 → m < F → fX5_greatestSquare_3 F 101 (dv m) (lay M) = some (lkI (la f m), lay M)
  | m, 0, _, hF => by omega
  | 0, F + 1, hp, _ => by
    show bX5_greatestSquare_3 (fX5_greatestSquare_3 F) 101 (-1) (lay M) = _
    unfold bX5_greatestSquare_3
    rw [if_pos (show (-1 : Int32) < 0 by decide)]
    rfl
  | m + 1, F + 1, hp, hF => by
    show bX5_greatestSquare_3 (fX5_greatestSquare_3 F) 101 (nI m) (lay M) = _
    have hfp := hb m (by omega)
    have ih := c_greatest hf hb m F (by omega) (by omega)
    have ed : nI m + (-1 : Int32) = dv m := by
      cases m with
      | zero => rfl
      | succ m => exact pk_m1 m
    unfold bX5_greatestSquare_3 la
    rw [if_neg (show ¬ nI m < 0 from nI_pos (by omega)), r_101_2, Option.bind_some, aI_lay 41 (show isA 116 0 41 = true by decide) (by decide) (show m < 41 by omega) (by decide), Option.bind_some, hf m (by omega), ed]
    by_cases z : f m = 0
    · rw [if_pos ((le0 (by omega)).mpr z), if_pos z]
      exact ih
    · rw [if_neg (fun y => z ((le0 (by omega)).mp y)), if_neg z]
      rfl
/-- what the reference's span keeps -/
def frX (M M' : mm) : Prop := M'.2 = M.2 ∧ (∀ a, a ≠ 123 → a ≠ 127 → M'.1 a = M.1 a) ∧ ∀ j, j < 812 → M'.1 123 j = M.1 123 j
theorem frX.rf {M : mm} : frX M M := ⟨rfl, fun _ _ _ => rfl, fun _ _ => rfl⟩
theorem frX.tr {M M' M'' : mm} (h : frX M M') (h2 : frX M' M'') : frX M M'' := ⟨h2.1.trans h.1, fun a p q => (h2.2.1 a p q).trans (h.2.1 a p q), fun j hj => (h2.2.2 j hj).trans (h.2.2 j hj)⟩
theorem frW.X {M M' : mm} (h : frW 812 852 M M') : frX M M' := ⟨h.1, fun a p _ => h.2.1 a p, fun j hj => h.2.2 j (Or.inl hj)⟩
theorem frX.put {M : mm} {q : Nat} {x : Int32} : frX M (sI M 127 q x) := ⟨rfl, fun a _ h => sI_o h, fun j _ => by rw [sI_o (by omega)]⟩
theorem frX_kp {M M' : mm} (h : frX M M') : kp M M' := by
  obtain ⟨h1, h2, h3⟩ := h
  exact ⟨by rw [h1], by rw [h1], by rw [h1], by rw [h1], fun a ha => h2 a (by omega) (by omega), by rw [h2 90 (by omega) (by omega)], by rw [h2 122 (by omega) (by omega)], fun j hj => h3 j (by omega)⟩
theorem r_span_42 {v1 v2 v3 : Int32} : ∀ (m q F : Nat) (M : mm), q + m = 41 → m < F → ∃ M', fX11_span_42 F 122 v1 v2 v3 (nI q) (lay M) = (gx_bd (fX11_rowsOf 122 v2 (lay M')) fun x10 h9 => fX11_span_73 gx_N 122 v1 v2 v3 x10 (0 : Int32) h9) ∧ frX M M' ∧ (∀ j, j < q → M'.1 127 j = M.1 127 j) ∧ ∀ j, q ≤ j → j ≤ 40 → M'.1 127 j = 0
  | m, q, 0, M, _, hF => by omega
  | 0, q, F + 1, M, hq, _ => by
    show ∃ M', bX11_span_42 (fX11_span_42 F) 122 v1 v2 v3 (nI q) (lay M) = _ ∧ _
    unfold bX11_span_42
    rw [if_pos (show (40 : Int32) < nI q from nI_lt (a := 40) (by omega) (by omega))]
    exact ⟨M, rfl, frX.rf, fun j _ => rfl, fun j h1 h2 => by omega⟩
  | m + 1, q, F + 1, M, hq, hF => by
    show ∃ M', bX11_span_42 (fX11_span_42 F) 122 v1 v2 v3 (nI q) (lay M) = _ ∧ _
    unfold bX11_span_42
    rw [if_neg (show ¬ (40 : Int32) < nI q from by rw [show (40 : Int32) = nI 40 from rfl, t_lt, nI_toInt (by omega), nI_toInt (by omega)]; omega), r_122_10, Option.bind_some, show vp_nar .boolean (0 : Int32) = 0 from rfl, sI_lay 41 (show isA 127 2 41 = true by decide) (by decide) (show q < 41 by omega) (by decide), Option.bind_some, nI_1]
    obtain ⟨M', e1, e2, e3, e4⟩ := r_span_42 m (q + 1) F (sI M 127 q 0) (by omega) (by omega)
    refine ⟨M', e1, frX.put.tr e2, fun j hj => ?_, fun j h1 h2 => ?_⟩
    · rw [e3 j (by omega), sI_n (by omega)]
    · by_cases z : j = q
      · subst z; rw [e3 j (by omega), sI_s]
      · exact e4 j (by omega) h2
theorem r_span_73 {M0 : mm} {v3 : Int32} (hd1 : 2 ≤ d) (hd : d ≤ 6) (hi : i < np) (hT : T ≤ 5) (hD : M0.1 123 1 = nI d) (hok : okV V n np) (he : eqv n np V (VR M0.1 0)) : ∀ (m x F : Nat) (M : mm), x + m = d ^ T → m < F → frX M0 M → (∀ q, q ≤ 40 → M.1 127 q = nI (gB1 (fun q => sm (fun y => Fq i q (plP d n (fun _ => i) T y V)) x) q)) → ∃ M', frX M0 M' ∧ (∀ q, q ≤ 40 → M'.1 127 q = nI (gB1 (fun q => SS d n (fun _ => i) (Fq i q) T V) q)) ∧ fX11_span_73 F 122 (nI i) (nI T) v3 (nI (d ^ T)) (nI x) (lay M) = fX11_span_126 gx_N 122 v3 0 (-1) (-1) 0 (lay M')
  | m, x, 0, M, _, hF, _, _ => by omega
  | 0, x, F + 1, M, hx, _, hf, hc => by
    have hp := pow_bd hd hT
    have e : x = d ^ T := by omega
    show ∃ M', _ ∧ _ ∧ bX11_span_73 (fX11_span_73 F) 122 (nI i) (nI T) v3 (nI (d ^ T)) (nI x) (lay M) = _
    unfold bX11_span_73
    rw [if_pos (nI_le (by omega) (by omega))]
    rw [e] at hc
    exact ⟨M, hf, hc, rfl⟩
  | m + 1, x, F + 1, M, hx, hF, hf, hc => by
    have hp := pow_bd hd hT
    have h4 := hok.2.2.2.1
    have hD' : M.1 123 1 = nI d := by rw [hf.2.2 1 (by omega)]; exact hD
    have he' : eqv n np V (VR M.1 0) := eqv_low he hok.2.1 h4 (fun j hj => by rw [VR0, VR0]; exact hf.2.2 j (by omega))
    show ∃ M', _ ∧ _ ∧ bX11_span_73 (fX11_span_73 F) 122 (nI i) (nI T) v3 (nI (d ^ T)) (nI x) (lay M) = _
    unfold bX11_span_73
    obtain ⟨M1, M2, a1, a2, a3, a4⟩ := r_tp (M := M) (x := x) hd1 hd hi hT (by omega) hD' hok he'
    obtain ⟨p, hp40, ep⟩ := okV_at (okV_plP (P := fun _ => i) (by omega) hd (fun _ => hi) T x V hok) hi
    have e1 : M2.1 123 (844 + i) = nI p := by
      rw [← ep, (a3.2.2.2.2.2 i hi).2.1]
      unfold VR
      rw [show 812 + (32 + i) = 844 + i by omega]
    rw [if_neg (nI_ge (by omega) (by omega)), a1, gx_bd_some, a2, gx_bd_some, r_122_10, Option.bind_some, r_122_0, Option.bind_some, show (844 : Int32) = nI 844 from rfl, nI_add, ra (by omega), Option.bind_some, e1, show vp_nar .boolean (1 : Int32) = 1 from rfl, sI_lay 41 (show isA 127 2 41 = true by decide) (by decide) (show p < 41 by omega) (by decide), Option.bind_some, nI_1]
    refine r_span_73 hd1 hd hi hT hD hok he m (x + 1) F _ (by omega) (by omega) (hf.tr (a4.X.tr frX.put)) (fun q hq => ?_)
    have es : gB1 (fun q => sm (fun y => Fq i q (plP d n (fun _ => i) T y V)) (x + 1)) q = if sm (fun y => Fq i q (plP d n (fun _ => i) T y V)) x + Fq i q (plP d n (fun _ => i) T x V) = 0 then 0 else 1 := rfl
    rw [es]
    by_cases z : q = p
    · subst z
      rw [sI_s, show Fq i q (plP d n (fun _ => i) T x V) = 1 from if_pos ep, if_neg (by omega)]
      rfl
    · rw [sI_n z, show Fq i q (plP d n (fun _ => i) T x V) = 0 from if_neg (by rw [ep]; exact ne_nI (by omega) (by omega) (fun y => z y.symm)), Nat.add_zero, a4.2.1 127 (by omega)]
      exact hc q hq
theorem fx_lt {p : Nat → Bool} : ∀ (m x y : Nat), fx p m x = some y → x ≤ y ∧ y < x + m
  | 0, x, y, h => by cases h
  | m + 1, x, y, h => by
    unfold fx at h
    split at h
    · cases h; omega
    · have := fx_lt m (x + 1) y h
      omega
theorem r_span_126 {M : mm} {v3 : Int32} {f : Nat → Nat} (hf : ∀ q, q ≤ 40 → M.1 127 q = nI (gB1 f q)) : ∀ (m p F : Nat), p + m = 41 → m < F → fX11_span_126 F 122 v3 (nI (sm (gB1 f) p)) (lkI (fx (hB1 f) p 0)) (lkI (la f p)) (nI p) (lay M) = some (if v3 = 0 then nI (sm (gB1 f) 41) else if v3 = 1 then lkI (fx (hB1 f) 41 0) else lkI (la f 41), lay M)
  | m, p, 0, _, hF => by omega
  | 0, p, F + 1, hp, _ => by
    have e : p = 41 := by omega
    subst e
    show bX11_span_126 (fX11_span_126 F) 122 v3 (nI (sm (gB1 f) 41)) (lkI (fx (hB1 f) 41 0)) (lkI (la f 41)) (nI 41) (lay M) = _
    generalize sm (gB1 f) 41 = s
    generalize fx (hB1 f) 41 0 = o
    generalize la f 41 = o2
    unfold bX11_span_126 fX11_span_191
    rw [if_pos (show (40 : Int32) < nI 41 by decide)]
    by_cases z : v3 = 0
    · rw [if_pos z, if_pos z]
    · rw [if_neg z, if_neg z]
      by_cases z1 : v3 = 1
      · rw [if_pos z1, if_pos z1]
      · rw [if_neg z1, if_neg z1]
  | m + 1, p, F + 1, hp, hF => by
    show bX11_span_126 (fX11_span_126 F) 122 v3 (nI (sm (gB1 f) p)) (lkI (fx (hB1 f) p 0)) (lkI (la f p)) (nI p) (lay M) = _
    have ih := r_span_126 (v3 := v3) hf m (p + 1) F (by omega) (by omega)
    rw [show sm (gB1 f) (p + 1) = sm (gB1 f) p + gB1 f p from rfl, fx_add 1 p 0, show la f (p + 1) = if f p = 0 then la f p else some p from rfl] at ih
    unfold bX11_span_126 fX11_span_164 fX11_span_158 fX11_span_164
    rw [if_neg (show ¬ (40 : Int32) < nI p from by rw [show (40 : Int32) = nI 40 from rfl, t_lt, nI_toInt (by omega), nI_toInt (by omega)]; omega), r_122_10, Option.bind_some, aI_lay 41 (show isA 127 2 41 = true by decide) (by decide) (show p < 41 by omega) (by decide), Option.bind_some, hf p (by omega), nI_1, nI_1]
    have e1 : fx (hB1 f) 1 (0 + p) = if f p = 0 then none else some p := by
      rw [Nat.zero_add]
      show (if hB1 f p = true then some p else none) = _
      by_cases z : f p = 0
      · rw [if_pos z, if_neg (show ¬ hB1 f p = true from fun y => of_decide_eq_true y z)]
      · rw [if_neg z, if_pos (show hB1 f p = true from decide_eq_true z)]
    rw [e1] at ih
    by_cases z : f p = 0
    · rw [show gB1 f p = 0 from if_pos z, Nat.add_zero, if_pos z, if_pos z] at ih
      rw [show gB1 f p = 0 from if_pos z, if_pos (show nI 0 = 0 from rfl)]
      cases hq : fx (hB1 f) p 0 with
      | none => rw [hq] at ih; exact ih
      | some y => rw [hq] at ih; exact ih
    · rw [show gB1 f p = 1 from if_neg z, if_neg z, if_neg z] at ih
      rw [show gB1 f p = 1 from if_neg z, if_neg (show ¬ nI 1 = 0 by decide)]
      cases hq : fx (hB1 f) p 0 with
      | none =>
        rw [hq] at ih
        rw [if_neg (show ¬ 0 ≤ lkI none by decide)]
        exact ih
      | some y =>
        have hy := fx_lt _ _ _ hq
        rw [hq] at ih
        rw [if_pos (show 0 ≤ lkI (some y) from nI_le (a := 0) (b := y) (by omega) (by omega))]
        exact ih
end SN
theorem op_span (a b c : Int32) : Op (fX10_span 0 a b c) (fX11_span 122 a b c) := by
  intro M h
  obtain ⟨n, np, hs, q, g⟩ := h.gm
  have hn6 := g.n6
  have hp4 := g.np6
  unfold fX10_span fX11_span fX10_span_26 fX11_span_32
  simp only [o_0, o_122, r_0_0, r_0_4, r_1_0, f10_isPlayer, f11_isPlayer, f10_within, f11_in, Option.bind_some, gx_bd_some, f10_bad, f11_bad', show (0 : Int64) = (0 : Int32).toInt64 from rfl, show (4 : Int64) = (4 : Int32).toInt64 from rfl, show (2 : Int64) = (2 : Int32).toInt64 from rfl, b_le]
  have eB : (badC M).1 123 = M.1 123 := by unfold badC; rw [sI_o (by omega)]
  by_cases c1 : 0 ≤ a ∧ a ≤ M.1 2 3 - 1
  case neg =>
    rw [b2_f c1, if_pos rfl]
    refine ⟨_, badC M, badR (badC M), rfl, ?_, h.bad⟩
    rw [eB, b2_f (fun z => c1 ((g.pl _).mp z)), if_pos rfl]
  rw [b2_t c1, if_neg (by decide)]
  have c1' := (g.pl _).mpr c1
  by_cases c2 : 0 ≤ b ∧ b ≤ 4
  case neg =>
    rw [b2_f c2, if_pos rfl]
    refine ⟨_, badC M, badR (badC M), rfl, ?_, h.bad⟩
    rw [eB, b2_t c1', if_neg (by decide), if_pos rfl]
  rw [b2_t c2, if_neg (by decide)]
  by_cases c3 : 0 ≤ c ∧ c ≤ 2
  case neg =>
    rw [b2_f c3, if_pos rfl]
    refine ⟨_, badC M, badR (badC M), rfl, ?_, h.bad⟩
    rw [eB, b2_t c1', if_neg (by decide), if_neg (by decide), if_pos rfl]
  rw [b2_t c3, if_neg (by decide)]
  obtain ⟨i, hi, rfl⟩ := g.isP c1
  obtain ⟨T, _, hT, rfl⟩ := in_n (a := 0) (b := 4) (by omega) c2 (by omega)
  have hD := g.D
  obtain ⟨d, hd, ed⟩ := bn_nI (x := M.1 2 1) (n := 6) ⟨by have := hD.1; omega, hD.2⟩
  have hd1 : 2 ≤ d := by have := hD.1; rw [ed, nI_toInt (by omega)] at this; omega
  have hp := pow_bd hd (show T ≤ 5 by omega)
  obtain ⟨V, Ma, a1, a2, a3, a4, a5, a6⟩ := c_spreadQ (T := T) hd1 hd hi (by omega) g.1 ed h.2.2.2.2.2.2.1
  have e123 : Ma.1 123 = M.1 123 := a4.2 123 (by omega)
  have hq : ∀ q, q ≤ 40 → SS d n (fun _ => i) (Fq i q) T V ≤ 10000 := fun q _ => by
    have : SS d n (fun _ => i) (Fq i q) T V ≤ d ^ T * 1 := SS_le (fun x => by unfold Fq; split <;> omega)
    omega
  have h1 := h.kp (a4.kp (fun a z => by omega))
  have he : eqv n np V (VR Ma.1 0) := by
    have : VR Ma.1 0 = VR M.1 0 := by unfold VR; rw [e123]
    rw [this]
    exact eqv_tr a3 g.2.1
  have hD1 : Ma.1 123 1 = nI d := by rw [e123, g.w1]; exact ed
  obtain ⟨Mb, b1, b2, b3, b4⟩ := r_span_42 (v1 := nI i) (v2 := nI T) (v3 := c) 41 0 gx_N Ma (by omega) (by unfold gx_N; omega)
  obtain ⟨Mc, x1, x2, x3⟩ := r_span_73 (M0 := Mb) (v3 := c) (T := T) (V := V) hd1 hd hi (by omega) (by rw [b2.2.2 1 (by omega)]; exact hD1) a2 (eqv_low he hn6 hp4 (fun j hj => by rw [VR0, VR0]; exact b2.2.2 j (by omega))) (d ^ T) 0 gx_N Mb (by omega) (by unfold gx_N; omega) frX.rf (fun q hq => by rw [b4 q (by omega) hq]; rfl)
  have b1' : fX11_span_42 gx_N 122 (nI i) (nI T) c 0 (lay Ma) = _ := b1
  have x3' : fX11_span_73 gx_N 122 (nI i) (nI T) c (nI (d ^ T)) 0 (lay Mb) = _ := x3
  have y1 := r_span_126 (M := Mc) (v3 := c) (f := fun q => SS d n (fun _ => i) (Fq i q) T V) x2 41 0 gx_N (by omega) (by unfold gx_N; omega)
  have y1' : fX11_span_126 gx_N 122 c 0 (-1) (-1) 0 (lay Mc) = _ := y1
  rw [a1, gx_bd_some]
  simp only [r_0_0, r_0_4, r_1_0, Option.bind_some]
  refine ⟨if c = 0 then nI (sm (gB1 fun q => SS d n (fun x => i) (Fq i q) T V) 41) else if c = 1 then lkI (fx (hB1 fun q => SS d n (fun x => i) (Fq i q) T V) 41 0) else lkI (la (fun q => SS d n (fun x => i) (Fq i q) T V) 41), Ma, Mc, ?_, ?_, h1.kp (frX_kp (b2.tr x1))⟩
  rotate_left
  · rw [e123, b2_t c1', if_neg (by decide), if_neg (by decide), if_neg (by decide), b1', r_rowsOf (by rw [b2.2.2 1 (by omega)]; exact hD1) (by omega), gx_bd_some, x3', y1']
  · unfold fX5_unlikeSquares fX5_leastSquare fX5_greatestSquare
    rw [o_101, Option.bind_some, Option.bind_some, Option.bind_some]
    have u1 : fX5_unlikeSquares_4 gx_N 101 0 0 (lay Ma) = _ := c_unlike (M := Ma) (f := fun q => SS d n (fun _ => i) (Fq i q) T V) a6 hq 41 0 gx_N (by omega) (by unfold gx_N; omega)
    have u2 : fX5_leastSquare_2 gx_N 101 0 (lay Ma) = _ := c_least (M := Ma) (f := fun q => SS d n (fun _ => i) (Fq i q) T V) a6 hq 41 0 gx_N (by omega) (by unfold gx_N; omega)
    have u3 : fX5_greatestSquare_3 gx_N 101 40 (lay Ma) = _ := c_greatest (M := Ma) (f := fun q => SS d n (fun _ => i) (Fq i q) T V) a6 hq 41 gx_N (by omega) (by unfold gx_N; omega)
    rw [u1, u2, u3, gx_bd_some, gx_bd_some, gx_bd_some]
    by_cases z : c = 0
    · rw [if_pos z, if_pos z]
    · rw [if_neg z, if_neg z]
      by_cases z1 : c = 1
      · rw [if_pos z1, if_pos z1]
      · rw [if_neg z1, if_neg z1]
