/-! home, mean: fractions told -/
theorem tell2 {x y : Nat} (hx : x < 4611686018427387904) (hy : y < 4611686018427387904) (h0 : 0 < y) : ∃ p q : Int64, (∀ M : mm, fX10_keepFraction 0 (nJ x) (nJ y) (lay M) = some (1, lay (sJ (sJ M 0 6 p) 0 7 q))) ∧ ∀ M : mm, fX11_told 122 (nJ x) (nJ y) (lay M) = some (1, lay (sJ (sJ M 122 4 p) 122 5 q)) := by
  have h62 : (2 : Nat) ^ 62 = 4611686018427387904 := by decide
  have hy2 : y < 2 ^ 62 := by omega
  have e1 : eg 200 x y = eg (2 * 62 + 1) x y := eg_mod 62 200 x y hy2 (by omega)
  have hp : 0 < eg (2 * 62 + 1) x y := eg_pos _ _ _ (Or.inr h0) (Or.inl (by omega))
  have hl := eg_le (2 * 62 + 1) x y hx hy
  have hz : ez (2 * 62) x y := ez_mod 62 x y hy2
  refine ⟨nJ (x / eg (2 * 62 + 1) x y), nJ (y / eg (2 * 62 + 1) x y), fun M => ?_, fun M => ?_⟩
  · have hc : fX10_commonDivisor (nJ x) (nJ y) (lay M) = some (nJ (eg (2 * 62 + 1) x y), lay M) := by
      rw [← e1]
      exact c_gcd_l (lay M) 200 gx_N 0 x y (by omega) (by unfold gx_N; omega) hx hy
    unfold fX10_keepFraction fX10_keepFraction_30
    rw [o_0, Option.bind_some, hc, gx_bd_some]
    generalize eg (2 * 62 + 1) x y = d at hp hl ⊢
    have hd : ¬ nJ d = 0 := fun z => by have := (nJ_0 hl).mp z; omega
    have hpos : ¬ lg_cmp (nJ d) 0 ≤ 0 := by
      have := (lgc_gt (nJ d) 0).mpr (by rw [Int64.lt_iff_toInt_lt, nJ_i hl]; show (0 : Int) < d; omega)
      rw [t_lt] at this
      rw [t_le]
      omega
    unfold gx_dJ
    rw [if_neg hpos, if_neg hd, Option.bind_some, nJ_div hx hl, pj_0_6, Option.bind_some, if_neg hd, Option.bind_some, nJ_div hy hl, pj_0_7, Option.bind_some]
  · unfold fX11_told
    rw [o_122, Option.bind_some]
    exact r_told_l hx hy (2 * 62) gx_N x y (by unfold gx_N; omega) hx hy hz hp
theorem nI_J {a : Nat} (h : a < 2147483648) : (nI a).toInt64 = nJ a := nJ_inj (by omega) (by rw [Int32.toInt_toInt64, nI_toInt (by omega)])
theorem inv_frac {M M' : mm} (h : Inv M) (hf : FQ M') (k : kp M (M'.1, M.2.1, M'.2.2)) : Inv M' := by
  obtain ⟨g1, g2, g3, g4, g5, g6, g7⟩ := h.kp k
  exact ⟨g1, g2, g3, g4, hf, g6, g7⟩
theorem inv_told {M Ma Mb : mm} {p q : Int64} (h : Inv M) (ka : kp M Ma) (hf : frW 812 852 (sJ (sJ Ma 0 6 p) 0 7 q) Mb) : Inv (sJ (sJ Mb 122 4 p) 122 5 q) := by
  obtain ⟨a1, a2, a3, a4, a5, a6, a7, a8⟩ := ka
  obtain ⟨f1, f2, f3⟩ := hf
  refine inv_frac h ?_ ⟨?_, rfl, rfl, rfl, fun a ha => ?_, ?_, ?_, fun j hj => ?_⟩
  · unfold FQ
    show up2 (up2 Mb.2.1 122 4 p) 122 5 q 0 6 = up2 (up2 Mb.2.1 122 4 p) 122 5 q 122 4 ∧ up2 (up2 Mb.2.1 122 4 p) 122 5 q 0 7 = up2 (up2 Mb.2.1 122 4 p) 122 5 q 122 5
    rw [f1]
    show up2 (up2 (up2 (up2 Ma.2.1 0 6 p) 0 7 q) 122 4 p) 122 5 q 0 6 = up2 (up2 (up2 (up2 Ma.2.1 0 6 p) 0 7 q) 122 4 p) 122 5 q 122 4 ∧ up2 (up2 (up2 (up2 Ma.2.1 0 6 p) 0 7 q) 122 4 p) 122 5 q 0 7 = up2 (up2 (up2 (up2 Ma.2.1 0 6 p) 0 7 q) 122 4 p) 122 5 q 122 5
    simp [up2]
  · show Mb.2.2 = M.2.2
    rw [f1]; exact a1
  · show Mb.1 a = M.1 a
    rw [f2 a (by omega)]; exact a5 a ha
  · show Mb.1 90 0 = M.1 90 0
    rw [f2 90 (by omega)]; exact a6
  · show Mb.1 122 3 = M.1 122 3
    rw [f2 122 (by omega)]; exact a7
  · show Mb.1 123 j = M.1 123 j
    rw [f3 j (by omega)]; exact a8 j hj
section RH
variable {d n np i T : Nat} {V : Nat → Int32}
def Fh (i : Nat) (W : Nat → Int32) : Nat := if W (32 + i) = W 0 then 1 else 0
def Fs (i : Nat) (W : Nat → Int32) : Nat := (W (32 + i)).toNatClampNeg
theorem r_home_39 {M0 : mm} (hd1 : 2 ≤ d) (hd : d ≤ 6) (hi : i < np) (hT : T ≤ 5) (hD : M0.1 123 1 = nI d) (hok : okV V n np) (he : eqv n np V (VR M0.1 0)) : ∀ (m x F : Nat) (M : mm), x + m = d ^ T → m < F → frW 812 852 M0 M → ∃ M', frW 812 852 M0 M' ∧ fX11_home_39 F 122 (nI i) (nI T) (nI (sm (fun x => Fh i (plP d n (fun _ => i) T x V)) x)) (nI (d ^ T)) (nI x) (lay M) = gx_bd (fX11_told 122 ((nI (SS d n (fun _ => i) (Fh i) T V)).toInt64) ((nI (d ^ T)).toInt64) (lay M')) fun x10 h9 => some (x10, h9)
  | m, x, 0, M, _, hF, _ => by omega
  | 0, x, F + 1, M, hx, _, hf => by
    have hp := pow_bd hd hT
    have e : x = d ^ T := by omega
    show ∃ M', _ ∧ bX11_home_39 (fX11_home_39 F) 122 (nI i) (nI T) (nI (sm (fun x => Fh i (plP d n (fun _ => i) T x V)) x)) (nI (d ^ T)) (nI x) (lay M) = _
    unfold bX11_home_39
    rw [if_pos (nI_le (by omega) (by omega)), e]
    exact ⟨M, hf, rfl⟩
  | m + 1, x, F + 1, M, hx, hF, hf => by
    have hp := pow_bd hd hT
    have h4 := hok.2.2.2.1
    have hD' : M.1 123 1 = nI d := by rw [hf.lo (by omega)]; exact hD
    show ∃ M', _ ∧ bX11_home_39 (fX11_home_39 F) 122 (nI i) (nI T) (nI (sm (fun x => Fh i (plP d n (fun _ => i) T x V)) x)) (nI (d ^ T)) (nI x) (lay M) = _
    unfold bX11_home_39 fX11_home_75
    obtain ⟨M1, M2, a1, a2, a3, a4⟩ := r_tp (M := M) (x := x) hd1 hd hi hT (by omega) hD' hok (hf.V0 hok.2.1 h4 he)
    rw [if_neg (nI_ge (by omega) (by omega)), a1, gx_bd_some, a2, gx_bd_some, r_hm hi h4 a3, gx_bd_some, nI_1]
    have ih := r_home_39 (M0 := M0) hd1 hd hi hT hD hok he m (x + 1) F M2 (by omega) (by omega) (hf.tr a4)
    have es : sm (fun x => Fh i (plP d n (fun _ => i) T x V)) (x + 1) = sm (fun x => Fh i (plP d n (fun _ => i) T x V)) x + Fh i (plP d n (fun _ => i) T x V) := rfl
    rw [es] at ih
    by_cases c : plP d n (fun _ => i) T x V (32 + i) = plP d n (fun _ => i) T x V 0
    · rw [show Fh i (plP d n (fun _ => i) T x V) = 1 from if_pos c] at ih
      rw [b2_t c, if_neg (by decide), nI_1]
      exact ih
    · rw [show Fh i (plP d n (fun _ => i) T x V) = 0 from if_neg c, Nat.add_zero] at ih
      rw [b2_f c, if_pos (show (0 : Int32) = 0 from rfl), Int32.add_zero]
      exact ih
theorem okV_at {W : Nat → Int32} (h : okV W n np) (hi : i < np) : ∃ p, p ≤ 40 ∧ W (32 + i) = nI p := by
  have hb := (h.2.2.2.2.2.2.2 i hi).1
  exact bn_nI (x := W (32 + i)) (n := 40) ⟨hb.1, by have := hb.2; have := h.2.2.2.2.1.2; omega⟩
theorem cl_nI {p : Nat} (h : p < 2147483648) : (nI p).toNatClampNeg = p := by
  show (nI p).toInt.toNat = p
  rw [nI_toInt (by omega)]
  omega
theorem r_mean_39 {M0 : mm} (hd1 : 2 ≤ d) (hd : d ≤ 6) (hi : i < np) (hT : T ≤ 5) (hD : M0.1 123 1 = nI d) (hok : okV V n np) (he : eqv n np V (VR M0.1 0)) : ∀ (m x F : Nat) (M : mm), x + m = d ^ T → m < F → frW 812 852 M0 M → ∃ M', frW 812 852 M0 M' ∧ fX11_mean_39 F 122 (nI i) (nI T) (nI (sm (fun x => Fs i (plP d n (fun _ => i) T x V)) x)) (nI (d ^ T)) (nI x) (lay M) = gx_bd (fX11_told 122 ((nI (SS d n (fun _ => i) (Fs i) T V)).toInt64) ((nI (d ^ T)).toInt64) (lay M')) fun x10 h9 => some (x10, h9)
  | m, x, 0, M, _, hF, _ => by omega
  | 0, x, F + 1, M, hx, _, hf => by
    have hp := pow_bd hd hT
    have e : x = d ^ T := by omega
    show ∃ M', _ ∧ bX11_mean_39 (fX11_mean_39 F) 122 (nI i) (nI T) (nI (sm (fun x => Fs i (plP d n (fun _ => i) T x V)) x)) (nI (d ^ T)) (nI x) (lay M) = _
    unfold bX11_mean_39
    rw [if_pos (nI_le (by omega) (by omega)), e]
    exact ⟨M, hf, rfl⟩
  | m + 1, x, F + 1, M, hx, hF, hf => by
    have hp := pow_bd hd hT
    have h4 := hok.2.2.2.1
    have hD' : M.1 123 1 = nI d := by rw [hf.lo (by omega)]; exact hD
    show ∃ M', _ ∧ bX11_mean_39 (fX11_mean_39 F) 122 (nI i) (nI T) (nI (sm (fun x => Fs i (plP d n (fun _ => i) T x V)) x)) (nI (d ^ T)) (nI x) (lay M) = _
    unfold bX11_mean_39
    obtain ⟨M1, M2, a1, a2, a3, a4⟩ := r_tp (M := M) (x := x) hd1 hd hi hT (by omega) hD' hok (hf.V0 hok.2.1 h4 he)
    obtain ⟨p, hp40, ep⟩ := okV_at (okV_plP (P := fun _ => i) (by omega) hd (fun _ => hi) T x V hok) hi
    have e1 : M2.1 123 (844 + i) = nI p := by
      rw [← ep, (a3.2.2.2.2.2 i hi).2.1]
      unfold VR
      rw [show 812 + (32 + i) = 844 + i by omega]
    have ih := r_mean_39 (M0 := M0) hd1 hd hi hT hD hok he m (x + 1) F M2 (by omega) (by omega) (hf.tr a4)
    have es : sm (fun x => Fs i (plP d n (fun _ => i) T x V)) (x + 1) = sm (fun x => Fs i (plP d n (fun _ => i) T x V)) x + p := by
      show sm (fun x => Fs i (plP d n (fun _ => i) T x V)) x + Fs i (plP d n (fun _ => i) T x V) = _
      unfold Fs
      rw [ep, cl_nI (by omega)]
    rw [es] at ih
    rw [if_neg (nI_ge (by omega) (by omega)), a1, gx_bd_some, a2, gx_bd_some, r_122_0, Option.bind_some, show (844 : Int32) = nI 844 from rfl, nI_add, ra (by omega), Option.bind_some, e1, nI_add, nI_1]
    exact ih
theorem SS_le {F : (Nat → Int32) → Nat} {b : Nat} (h : ∀ x, F (plP d n (fun _ => i) T x V) ≤ b) : SS d n (fun _ => i) F T V ≤ d ^ T * b := sm_le _ (fun x _ => h x)
end RH
theorem op_home (a b : Int32) : Op (fX10_home 0 a b) (fX11_home 122 a b) := by
  intro M h
  obtain ⟨n, np, hs, q, g⟩ := h.gm
  have hn6 := g.n6
  have hp4 := g.np6
  unfold fX10_home fX11_home fX10_home_17 fX11_home_20
  simp only [o_0, o_122, r_0_0, r_0_4, r_1_0, f10_isPlayer, f11_isPlayer, f10_within, f11_in, Option.bind_some, gx_bd_some, f10_bad, f11_bad', show (0 : Int64) = (0 : Int32).toInt64 from rfl, show (5 : Int64) = (5 : Int32).toInt64 from rfl, b_le]
  have eB : (badC M).1 123 = M.1 123 := by unfold badC; rw [sI_o (by omega)]
  by_cases c1 : 0 ≤ a ∧ a ≤ M.1 2 3 - 1
  case neg =>
    rw [b2_f c1, if_pos rfl]
    refine ⟨_, badC M, badR (badC M), rfl, ?_, h.bad⟩
    rw [eB, b2_f (fun z => c1 ((g.pl _).mp z)), if_pos rfl]
  rw [b2_t c1, if_neg (by decide)]
  have c1' := (g.pl _).mpr c1
  by_cases c2 : 0 ≤ b ∧ b ≤ 5
  case neg =>
    rw [b2_f c2, if_pos rfl]
    refine ⟨_, badC M, badR (badC M), rfl, ?_, h.bad⟩
    rw [eB, b2_t c1', if_neg (by decide), if_pos rfl]
  rw [b2_t c2, if_neg (by decide)]
  obtain ⟨i, hi, rfl⟩ := g.isP c1
  obtain ⟨T, _, hT, rfl⟩ := in_n (a := 0) (b := 5) (by omega) c2 (by omega)
  have hD := g.D
  obtain ⟨d, hd, ed⟩ := bn_nI (x := M.1 2 1) (n := 6) ⟨by have := hD.1; omega, hD.2⟩
  have hd1 : 2 ≤ d := by have := hD.1; rw [ed, nI_toInt (by omega)] at this; omega
  have hL := g.L
  obtain ⟨l, hl, el⟩ := bn_nI (x := M.1 2 0) (n := 40) ⟨by have := hL.1; omega, hL.2⟩
  have hp := pow_bd hd hT
  have hp0 : 0 < d ^ T := Nat.pow_pos (by omega)
  obtain ⟨V, Ma, a1, a2, a3, a4, a5, a6⟩ := c_spreadQ (T := T) hd1 hd hi hT g.1 ed h.2.2.2.2.2.2.1
  have e123 : Ma.1 123 = M.1 123 := a4.2 123 (by omega)
  have e2 : Ma.1 2 = M.1 2 := a4.2 2 (by omega)
  have hV0 : V 0 = nI l := by rw [a3.1, VC_0 _ _ (by omega)]; exact el
  have eS : SS d n (fun _ => i) (Fq i l) T V = SS d n (fun _ => i) (Fh i) T V := by
    unfold SS
    refine sm_eq _ (fun x _ => ?_)
    try dsimp only
    unfold Fq Fh
    rw [plP_o (j := 0) (by omega), hV0]
  have hS : SS d n (fun _ => i) (Fh i) T V ≤ d ^ T * 1 := SS_le (fun x => by unfold Fh; split <;> omega)
  obtain ⟨p, q', t1, t2⟩ := tell2 (x := SS d n (fun _ => i) (Fh i) T V) (y := d ^ T) (by omega) (by omega) hp0
  rw [a1, gx_bd_some]
  simp only [r_0_0, r_0_4, r_1_0, Option.bind_some]
  rw [c_rowsHome hl (by rw [a5]; exact el), gx_bd_some]
  simp only [r_0_0, r_0_4, r_1_0, Option.bind_some]
  rw [bi1 brd_2, Option.bind_some, e2, ed, c_power _ (by omega), gx_bd_some, a6 l hl, eS, nI_J (by omega), nI_J (by omega), t1, gx_bd_some]
  have he : eqv n np V (VR (sJ (sJ Ma 0 6 p) 0 7 q').1 0) := by
    have : VR (sJ (sJ Ma 0 6 p) 0 7 q').1 0 = VR M.1 0 := by unfold VR; show (fun j => Ma.1 123 (0 + j)) = _; rw [e123]
    rw [this]
    exact eqv_tr a3 g.2.1
  have hD1 : (sJ (sJ Ma 0 6 p) 0 7 q').1 123 1 = nI d := by show Ma.1 123 1 = nI d; rw [e123, g.w1]; exact ed
  obtain ⟨Mb, b1, b2⟩ := r_home_39 (M0 := sJ (sJ Ma 0 6 p) 0 7 q') (T := T) hd1 hd hi hT hD1 a2 he (d ^ T) 0 gx_N _ (by omega) (by unfold gx_N; omega) frW.rf
  have b2' : fX11_home_39 gx_N 122 (nI i) (nI T) 0 (nI (d ^ T)) 0 (lay (sJ (sJ Ma 0 6 p) 0 7 q')) = _ := b2
  refine ⟨1, _, _, rfl, ?_, inv_told h (a4.kp (fun a z => by omega)) b1⟩
  rw [show (sJ (sJ Ma 0 6 p) 0 7 q').1 123 3 = M.1 123 3 from by show Ma.1 123 3 = _; rw [e123], b2_t c1', if_neg (by decide), if_neg (by decide), r_rowsOf hD1 hT, gx_bd_some, b2', nI_J (by omega), nI_J (by omega), t2, gx_bd_some]
theorem sm_sq {i : Nat} {W : Nat → Nat → Int32} : ∀ (N : Nat), (∀ x, x < N → ∃ p, p ≤ 40 ∧ W x (32 + i) = nI p) → sm (fun p => p * sm (fun x => Fq i p (W x)) N) 41 = sm (fun x => Fs i (W x)) N
  | 0, _ => by
    have e : sm (fun p => p * sm (fun x => Fq i p (W x)) 0) 41 = sm (fun _ => 0) 41 := sm_eq 41 (fun x _ => Nat.mul_zero x)
    rw [e, sm_c]
    rfl
  | N + 1, h => by
    obtain ⟨p, hp, ep⟩ := h N (by omega)
    have e1 : sm (fun x => Fs i (W x)) (N + 1) = sm (fun x => Fs i (W x)) N + p := by
      show sm (fun x => Fs i (W x)) N + Fs i (W N) = _
      unfold Fs
      rw [ep, cl_nI (by omega)]
    rw [e1, ← sm_sq N (fun x hx => h x (by omega))]
    have e2 : ∀ q, q < 41 → Fq i q (W N) = if p = q then 1 else 0 := fun q hq => by
      unfold Fq
      rw [ep]
      by_cases z : p = q
      · rw [if_pos (by rw [z]), if_pos z]
      · rw [if_neg (ne_nI (by omega) (by omega) z), if_neg z]
    have e3 : ∀ m, m ≤ 41 → sm (fun q => q * sm (fun x => Fq i q (W x)) (N + 1)) m = sm (fun q => q * sm (fun x => Fq i q (W x)) N) m + if p < m then p else 0 := by
      intro m
      induction m with
      | zero => intro _; rfl
      | succ m ih =>
        intro hm
        have ihm := ih (by omega)
        show sm (fun q => q * sm (fun x => Fq i q (W x)) (N + 1)) m + m * (sm (fun x => Fq i m (W x)) N + Fq i m (W N)) = sm (fun q => q * sm (fun x => Fq i q (W x)) N) m + m * sm (fun x => Fq i m (W x)) N + _
        rw [ihm, e2 m (by omega), Nat.mul_add]
        by_cases z : p = m
        · subst z
          rw [if_pos rfl, if_neg (by omega), if_pos (by omega), Nat.mul_one]
          omega
        · rw [if_neg z, Nat.mul_zero]
          by_cases z2 : p < m
          · rw [if_pos z2, if_pos (by omega)]; omega
          · rw [if_neg z2, if_neg (by omega)]; omega
    rw [e3 41 (by omega), if_pos (by omega)]
theorem c_sumSq {M : mm} {f : Nat → Nat} (hf : ∀ q, q ≤ 40 → M.1 116 q = nI (f q)) (hb : ∀ q, q ≤ 40 → f q ≤ 10000) : ∀ (m p F : Nat), p + m = 41 → m < F → fX5_sumOfSquares_4 F 101 (nJ (sm (fun q => q * f q) p)) (nI p) (lay M) = some (nJ (sm (fun q => q * f q) 41), lay M)
  | m, p, 0, _, hF => by omega
  | 0, p, F + 1, hp, _ => by
    have e : p = 41 := by omega
    subst e
    show bX5_sumOfSquares_4 (fX5_sumOfSquares_4 F) 101 (nJ (sm (fun q => q * f q) 41)) (nI 41) (lay M) = _
    unfold bX5_sumOfSquares_4
    rw [if_pos (show (40 : Int32) < nI 41 by decide)]
  | m + 1, p, F + 1, hp, hF => by
    show bX5_sumOfSquares_4 (fX5_sumOfSquares_4 F) 101 (nJ (sm (fun q => q * f q) p)) (nI p) (lay M) = _
    unfold bX5_sumOfSquares_4
    have hfp := hb p (by omega)
    have hm1 : p * f p ≤ 40 * 10000 := Nat.mul_le_mul (by omega) hfp
    have hs : sm (fun q => q * f q) p ≤ p * 400000 := sm_le p (fun x hx => Nat.mul_le_mul (show x ≤ 40 by omega) (hb x (by omega)))
    have hs2 : p * 400000 ≤ 40 * 400000 := Nat.mul_le_mul_right _ (by omega)
    have e : nJ (sm (fun q => q * f q) p) + (nI p).toInt64 * (nI (f p)).toInt64 = nJ (sm (fun q => q * f q) (p + 1)) := by
      show _ = nJ (sm (fun q => q * f q) p + p * f p)
      generalize sm (fun q => q * f q) p = s at hs ⊢
      refine nJ_inj (by omega) ?_
      rw [nI_J (by omega), nI_J (by omega)]
      have e1 : (nJ p * nJ (f p)).toInt = ((p * f p : Nat) : Int) := by
        rw [Int64.toInt_mul, nJ_i (by omega), nJ_i (by omega), ← Int.natCast_mul]
        exact Int.bmod_eq_of_le (by omega) (by omega)
      rw [Int64.toInt_add, e1, nJ_i (by omega), ← Int.natCast_add]
      exact Int.bmod_eq_of_le (by omega) (by omega)
    rw [if_neg (show ¬ (40 : Int32) < nI p from by rw [show (40 : Int32) = nI 40 from rfl, t_lt, nI_toInt (by omega), nI_toInt (by omega)]; omega), r_101_2, Option.bind_some, aI_lay 41 (show isA 116 0 41 = true by decide) (by decide) (show p < 41 by omega) (by decide), Option.bind_some, hf p (by omega), e, nI_1]
    exact c_sumSq hf hb m (p + 1) F (by omega) (by omega)
theorem op_mean (a b : Int32) : Op (fX10_mean 0 a b) (fX11_mean 122 a b) := by
  intro M h
  obtain ⟨n, np, hs, q, g⟩ := h.gm
  have hn6 := g.n6
  have hp4 := g.np6
  unfold fX10_mean fX11_mean fX10_mean_17 fX11_mean_20
  simp only [o_0, o_122, r_0_0, r_0_4, r_1_0, f10_isPlayer, f11_isPlayer, f10_within, f11_in, Option.bind_some, gx_bd_some, f10_bad, f11_bad', show (0 : Int64) = (0 : Int32).toInt64 from rfl, show (5 : Int64) = (5 : Int32).toInt64 from rfl, b_le]
  have eB : (badC M).1 123 = M.1 123 := by unfold badC; rw [sI_o (by omega)]
  by_cases c1 : 0 ≤ a ∧ a ≤ M.1 2 3 - 1
  case neg =>
    rw [b2_f c1, if_pos rfl]
    refine ⟨_, badC M, badR (badC M), rfl, ?_, h.bad⟩
    rw [eB, b2_f (fun z => c1 ((g.pl _).mp z)), if_pos rfl]
  rw [b2_t c1, if_neg (by decide)]
  have c1' := (g.pl _).mpr c1
  by_cases c2 : 0 ≤ b ∧ b ≤ 5
  case neg =>
    rw [b2_f c2, if_pos rfl]
    refine ⟨_, badC M, badR (badC M), rfl, ?_, h.bad⟩
    rw [eB, b2_t c1', if_neg (by decide), if_pos rfl]
  rw [b2_t c2, if_neg (by decide)]
  obtain ⟨i, hi, rfl⟩ := g.isP c1
  obtain ⟨T, _, hT, rfl⟩ := in_n (a := 0) (b := 5) (by omega) c2 (by omega)
  have hD := g.D
  obtain ⟨d, hd, ed⟩ := bn_nI (x := M.1 2 1) (n := 6) ⟨by have := hD.1; omega, hD.2⟩
  have hd1 : 2 ≤ d := by have := hD.1; rw [ed, nI_toInt (by omega)] at this; omega
  have hp := pow_bd hd hT
  have hp0 : 0 < d ^ T := Nat.pow_pos (by omega)
  obtain ⟨V, Ma, a1, a2, a3, a4, a5, a6⟩ := c_spreadQ (T := T) hd1 hd hi hT g.1 ed h.2.2.2.2.2.2.1
  have e123 : Ma.1 123 = M.1 123 := a4.2 123 (by omega)
  have e2 : Ma.1 2 = M.1 2 := a4.2 2 (by omega)
  have hq : ∀ q, q ≤ 40 → SS d n (fun _ => i) (Fq i q) T V ≤ 10000 := fun q _ => by
    have : SS d n (fun _ => i) (Fq i q) T V ≤ d ^ T * 1 := SS_le (fun x => by unfold Fq; split <;> omega)
    omega
  have eS : sm (fun q => q * SS d n (fun _ => i) (Fq i q) T V) 41 = SS d n (fun _ => i) (Fs i) T V := sm_sq (i := i) (W := fun x => plP d n (fun _ => i) T x V) (d ^ T) (fun x _ => okV_at (okV_plP (P := fun _ => i) (by omega) hd (fun _ => hi) T x V a2) hi)
  have hS : SS d n (fun _ => i) (Fs i) T V ≤ d ^ T * 40 := SS_le (fun x => by
    obtain ⟨p, hp, ep⟩ := okV_at (okV_plP (P := fun _ => i) (by omega) hd (fun _ => hi) T x V a2) hi
    unfold Fs
    rw [ep, cl_nI (by omega)]
    exact hp)
  have hS2 : d ^ T * 40 ≤ 7776 * 40 := Nat.mul_le_mul_right _ hp
  obtain ⟨p, q', t1, t2⟩ := tell2 (x := SS d n (fun _ => i) (Fs i) T V) (y := d ^ T) (by omega) (by omega) hp0
  rw [a1, gx_bd_some]
  simp only [r_0_0, r_0_4, r_1_0, Option.bind_some]
  have hc := c_sumSq (M := Ma) (f := fun q => SS d n (fun _ => i) (Fq i q) T V) a6 hq 41 0 gx_N (by omega) (by unfold gx_N; omega)
  rw [eS] at hc
  have hc' : fX5_sumOfSquares 101 (lay Ma) = some (nJ (SS d n (fun _ => i) (Fs i) T V), lay Ma) := by
    unfold fX5_sumOfSquares
    rw [o_101, Option.bind_some]
    exact hc
  rw [hc', gx_bd_some]
  simp only [r_0_0, r_0_4, r_1_0, Option.bind_some]
  rw [bi1 brd_2, Option.bind_some, e2, ed, c_power _ (by omega), gx_bd_some, nI_J (by omega), t1, gx_bd_some]
  have he : eqv n np V (VR (sJ (sJ Ma 0 6 p) 0 7 q').1 0) := by
    have : VR (sJ (sJ Ma 0 6 p) 0 7 q').1 0 = VR M.1 0 := by unfold VR; show (fun j => Ma.1 123 (0 + j)) = _; rw [e123]
    rw [this]
    exact eqv_tr a3 g.2.1
  have hD1 : (sJ (sJ Ma 0 6 p) 0 7 q').1 123 1 = nI d := by show Ma.1 123 1 = nI d; rw [e123, g.w1]; exact ed
  obtain ⟨Mb, b1, b2⟩ := r_mean_39 (M0 := sJ (sJ Ma 0 6 p) 0 7 q') (T := T) hd1 hd hi hT hD1 a2 he (d ^ T) 0 gx_N _ (by omega) (by unfold gx_N; omega) frW.rf
  have b2' : fX11_mean_39 gx_N 122 (nI i) (nI T) 0 (nI (d ^ T)) 0 (lay (sJ (sJ Ma 0 6 p) 0 7 q')) = _ := b2
  refine ⟨1, _, _, rfl, ?_, inv_told h (a4.kp (fun a z => by omega)) b1⟩
  rw [show (sJ (sJ Ma 0 6 p) 0 7 q').1 123 3 = M.1 123 3 from by show Ma.1 123 3 = _; rw [e123], b2_t c1', if_neg (by decide), if_neg (by decide), r_rowsOf hD1 hT, gx_bd_some, b2', nI_J (by omega), nI_J (by omega), t2, gx_bd_some]
