/-! few: the reference's, and the call -/
theorem eqv_tr {n np : Nat} {U V W : Nat → Int32} (h : eqv n np U V) (h2 : eqv n np V W) : eqv n np U W := eqv_iff.mpr (fun j hj => (eqv_iff.mp h j hj).trans (eqv_iff.mp h2 j hj))
section RF
variable {d n np i T : Nat} {V : Nat → Int32}
theorem r_tp {M : mm} {x : Nat} (hd1 : 2 ≤ d) (hd : d ≤ 6) (hi : i < np) (hT : T ≤ 5) (hx : x < 2147483648) (hD : M.1 123 1 = nI d) (hok : okV V n np) (he : eqv n np V (VR M.1 0)) : ∃ M1 M', fX11_tries 122 (lay M) = some ((), lay M1) ∧ fX11_plays 122 (nI i) (nI x) (nI T) (lay M1) = some ((), lay M') ∧ eqv n np (plP d n (fun _ => i) T x V) (VR M'.1 812) ∧ frW 812 852 M M' := by
  obtain ⟨M1, t1, t2, t3⟩ := r_tries M
  have q1 : eqv n np V (VR M1.1 812) := eqv_low he hok.2.1 hok.2.2.2.1 t3
  obtain ⟨M2, u1, u2, u3⟩ := r_plays (M := M1) hd1 hd hi hT hx (by rw [t2.2.2 1 (by omega)]; exact hD) (eqv_ok q1 hok)
  refine ⟨M1, M2, t1, u1, ?_, t2.tr u3⟩
  rw [u2, play_P]
  exact eqv_plP (fun _ => hi) T x _ _ q1
theorem r_hm {M : mm} {W : Nat → Int32} (hi : i < np) (h4 : np ≤ 4) (e : eqv n np W (VR M.1 812)) : fX11_isHome 122 812 (nI i) (lay M) = some (b2 (W (32 + i) = W 0), lay M) := by
  rw [e.1, (e.2.2.2.2.2 i hi).2.1]
  exact r_isHome (r := 812) (by omega) (by omega)
theorem frW.lo {lo hi : Nat} {M M' : mm} (h : frW lo hi M M') {j : Nat} (hj : j < lo) : M'.1 123 j = M.1 123 j := h.2.2 j (Or.inl hj)
theorem frW.V0 {M M' : mm} (h : frW 812 852 M M') (hn : n ≤ 6) (hp : np ≤ 4) (e : eqv n np V (VR M.1 0)) : eqv n np V (VR M'.1 0) := eqv_low e hn hp (fun j hj => by rw [VR0, VR0]; exact h.lo (by omega))
def fwA (d : Nat) (k : Int32) (kn T y : Nat) : Int32 := if k = -1 then nI T else if nI T ≤ k then -5 else nI (y / d ^ (T - 1 - kn) % d + 1)
theorem ne_nI {a b : Nat} (ha : a < 2147483648) (hb : b < 2147483648) (h : a ≠ b) : ¬ nI a = nI b := fun z => h ((nI_eq ha hb).mp z)
theorem nz {a : Nat} (h0 : 0 < a) (h : a < 2147483648) : ¬ nI a = 0 := fun z => by have := (nI_eq (b := 0) h (by omega)).mp z; omega
theorem r_few_37 {M0 : mm} {k : Int32} {kn : Nat} (hd1 : 2 ≤ d) (hd : d ≤ 6) (hi : i < np) (hT : T ≤ 5) (hD : M0.1 123 1 = nI d) (hok : okV V n np) (he : eqv n np V (VR M0.1 0)) (hk : ¬ k = -1 → ¬ nI T ≤ k → k = nI kn ∧ kn < T) (k22 : Nat → Int32 → Int32 → Int32 → gx_H → Option (Int32 × gx_H)) : ∀ (m x F : Nat) (M : mm), x + m = d ^ T → m < F → frW 812 852 M0 M → ∃ M', frW 812 852 M0 M' ∧ fX11_few_37 k22 F 122 (nI i) k (nI T) (nI (d ^ T)) (nI x) (lay M) = match fx (fun x => decide (plP d n (fun _ => i) T x V (32 + i) = plP d n (fun _ => i) T x V 0)) m x with
    | some y => some (fwA d k kn T y, lay M')
    | none => k22 122 (nI i) k (nI (T + 1)) (lay M')
  | m, x, 0, M, _, hF, _ => by omega
  | 0, x, F + 1, M, hx, _, hf => by
    have hp := pow_bd hd hT
    show ∃ M', _ ∧ bX11_few_37 k22 (fX11_few_37 k22 F) 122 (nI i) k (nI T) (nI (d ^ T)) (nI x) (lay M) = _
    unfold bX11_few_37
    rw [if_pos (nI_le (by omega) (by omega)), nI_1]
    exact ⟨M, hf, rfl⟩
  | m + 1, x, F + 1, M, hx, hF, hf => by
    have hp := pow_bd hd hT
    have h4 := hok.2.2.2.1
    have hD' : M.1 123 1 = nI d := by rw [hf.lo (by omega)]; exact hD
    show ∃ M', _ ∧ bX11_few_37 k22 (fX11_few_37 k22 F) 122 (nI i) k (nI T) (nI (d ^ T)) (nI x) (lay M) = _
    unfold bX11_few_37 fx
    try dsimp only
    obtain ⟨M1, M2, a1, a2, a3, a4⟩ := r_tp (M := M) (x := x) hd1 hd hi hT (by omega) hD' hok (hf.V0 hok.2.1 h4 he)
    rw [if_neg (nI_ge (by omega) (by omega)), a1, gx_bd_some, a2, gx_bd_some, r_hm hi h4 a3, gx_bd_some]
    by_cases c : plP d n (fun _ => i) T x V (32 + i) = plP d n (fun _ => i) T x V 0
    · rw [b2_t c, if_neg (show ¬ (1 : Int32) = 0 by decide), if_pos (decide_eq_true c)]
      refine ⟨M2, hf.tr a4, ?_⟩
      show _ = some (fwA d k kn T x, lay M2)
      unfold fwA fX11_few_107
      by_cases c1 : k = -1
      · rw [if_pos c1, if_pos c1]
      rw [if_neg c1, if_neg c1]
      by_cases c2 : nI T ≤ k
      · rw [if_pos c2, if_pos c2]
      rw [if_neg c2, if_neg c2]
      obtain ⟨rfl, hkn⟩ := hk c1 c2
      have hp2 := pow_bd hd (t := T - 1 - kn) (by omega)
      have hp0 : 0 < d ^ (T - 1 - kn) := Nat.pow_pos (by omega)
      have hD2 : M2.1 123 1 = nI d := by rw [a4.lo (by omega)]; exact hD'
      have hxd : x / d ^ (T - 1 - kn) ≤ x := Nat.div_le_self _ _
      rw [show (nI T - 1) - nI kn = nI (T - 1 - kn) from by rw [show (1 : Int32) = nI 1 from rfl, pk_sub (by omega), pk_sub (by omega)], r_rowsOf hD2 (by omega), gx_bd_some]
      unfold gx_dI gx_rI
      rw [if_neg (nz (a := d ^ (T - 1 - kn)) (by omega) (by omega)), Option.bind_some, r_122_0, Option.bind_some, show gx_aI 0 (lay M2) 123 1 = some (M2.1 123 1) from ra (k := 1) (by omega), Option.bind_some, hD2, if_neg (nz (a := d) (by omega) (by omega)), Option.bind_some, pk_div (by omega) (by omega) (by omega), nI_mod (by omega) (by omega) (by omega), nI_1]
    · rw [b2_f c, if_pos (show (0 : Int32) = 0 from rfl), if_neg (fun z => c (of_decide_eq_true z)), nI_1]
      exact r_few_37 hd1 hd hi hT hD hok he hk k22 m (x + 1) F M2 (by omega) (by omega) (hf.tr a4)
theorem r_few_22 {M0 : mm} {k : Int32} {kn : Nat} (hd1 : 2 ≤ d) (hd : d ≤ 6) (hi : i < np) (hD : M0.1 123 1 = nI d) (hok : okV V n np) (he : eqv n np V (VR M0.1 0)) (hk : ∀ T, T ≤ 5 → ¬ k = -1 → ¬ nI T ≤ k → k = nI kn ∧ kn < T) : ∀ (m T F : Nat) (M : mm), T + m = 6 → m < F → frW 812 852 M0 M → ∃ M', frW 812 852 M0 M' ∧ fX11_few_22 F 122 (nI i) k (nI T) (lay M) = some (match lf (fun T => fx (fun x => decide (plP d n (fun _ => i) T x V (32 + i) = plP d n (fun _ => i) T x V 0)) (d ^ T) 0) m T with
    | some p => fwA d k kn p.1 p.2
    | none => -6, lay M')
  | m, T, 0, M, _, hF, _ => by omega
  | 0, T, F + 1, M, hT, _, hf => by
    show ∃ M', _ ∧ bX11_few_22 (fX11_few_22 F) 122 (nI i) k (nI T) (lay M) = _
    unfold bX11_few_22
    rw [if_pos (show (5 : Int32) < nI T from nI_lt (a := 5) (by omega) (by omega))]
    exact ⟨M, hf, rfl⟩
  | m + 1, T, F + 1, M, hT, hF, hf => by
    have hp := pow_bd hd (show T ≤ 5 by omega)
    have hD' : M.1 123 1 = nI d := by rw [hf.lo (by omega)]; exact hD
    show ∃ M', _ ∧ bX11_few_22 (fX11_few_22 F) 122 (nI i) k (nI T) (lay M) = _
    unfold bX11_few_22 lf
    try dsimp only
    rw [if_neg (show ¬ (5 : Int32) < nI T from by rw [show (5 : Int32) = nI 5 from rfl, t_lt, nI_toInt (by omega), nI_toInt (by omega)]; omega), r_rowsOf hD' (by omega), gx_bd_some]
    obtain ⟨M1, a1, a2⟩ := r_few_37 (M0 := M0) (k := k) (kn := kn) hd1 hd hi (show T ≤ 5 by omega) hD hok he (hk T (by omega)) (fX11_few_22 F) (d ^ T) 0 gx_N M (by omega) (by unfold gx_N; omega) hf
    have a2' : fX11_few_37 (fX11_few_22 F) gx_N 122 (nI i) k (nI T) (nI (d ^ T)) 0 (lay M) = _ := a2
    rw [a2']
    cases fx (fun x => decide (plP d n (fun _ => i) T x V (32 + i) = plP d n (fun _ => i) T x V 0)) (d ^ T) 0 with
    | some y => exact ⟨M1, a1, rfl⟩
    | none => exact r_few_22 hd1 hd hi hD hok he hk m (T + 1) F M1 (by omega) (by omega) a1
theorem lf_eq {g g' : Nat → Option Nat} (h : ∀ T, (∀ S, S < T → g S = none) → g' T = g T) : ∀ (m T : Nat), (∀ S, S < T → g S = none) → lf g' m T = lf g m T
  | 0, _, _ => rfl
  | m + 1, T, hT => by
    unfold lf
    rw [h T hT]
    cases hq : g T with
    | some y => rfl
    | none => exact lf_eq h m (T + 1) (fun S hS => by
        by_cases e : S = T
        · rw [e]; exact hq
        · exact hT S (by omega))
end RF
theorem op_few (a b : Int32) : Op (fX10_few 0 a b) (fX11_few 122 a b) := by
  intro M h
  obtain ⟨n, np, hs, q, g⟩ := h.gm
  have hn6 := g.n6
  have hp4 := g.np6
  unfold fX10_few fX11_few fX10_few_13 fX11_few_13 fX10_few_67
  simp only [o_0, o_122, r_0_0, r_0_4, r_1_0, f10_isPlayer, f11_isPlayer, Option.bind_some, gx_bd_some, f10_ten, f11_bad']
  have eB : (badC M).1 123 = M.1 123 := by unfold badC; rw [sI_o (by omega)]
  by_cases c1 : 0 ≤ a ∧ a ≤ M.1 2 3 - 1
  case neg =>
    rw [b2_f c1, if_pos rfl]
    refine ⟨_, badC M, badR (badC M), rfl, ?_, h.bad⟩
    rw [eB, b2_f (fun z => c1 ((g.pl _).mp z)), if_pos rfl]
  rw [b2_t c1, if_neg (by decide)]
  have c1' := (g.pl _).mpr c1
  by_cases c2 : -1 ≤ b
  case neg =>
    rw [if_neg c2]
    refine ⟨_, badC M, badR (badC M), rfl, ?_, h.bad⟩
    rw [eB, b2_t c1', if_neg (by decide), if_neg c2]
  rw [if_pos c2]
  obtain ⟨i, hi, rfl⟩ := g.isP c1
  have hD := g.D
  obtain ⟨d, hd, ed⟩ := bn_nI (x := M.1 2 1) (n := 6) ⟨by have := hD.1; omega, hD.2⟩
  have hd1 : 2 ≤ d := by have := hD.1; rw [ed, nI_toInt (by omega)] at this; omega
  have im : (-1 : Int32).toInt = -1 := by decide
  have hk : ∃ kn, ∀ T, T ≤ 5 → ¬ b = -1 → ¬ nI T ≤ b → b = nI kn ∧ kn < T := by
    by_cases z : 0 ≤ b ∧ b ≤ 4
    · obtain ⟨kn, _, h4, rfl⟩ := in_n (a := 0) (b := 4) (by omega) z (by omega)
      refine ⟨kn, fun T hT _ h2 => ⟨rfl, ?_⟩⟩
      rw [t_le, nI_toInt (by omega), nI_toInt (by omega)] at h2
      omega
    · refine ⟨0, fun T hT h1 h2 => absurd (⟨?_, ?_⟩ : 0 ≤ b ∧ b ≤ 4) z⟩
      · rw [t_le, im] at c2
        have : b.toInt ≠ -1 := fun y => h1 (t_inj (by rw [y, im]))
        rw [t_le, i0]
        omega
      · rw [t_le, nI_toInt (by omega)] at h2
        rw [t_le, show (4 : Int32).toInt = 4 by decide]
        omega
  obtain ⟨kn, hk⟩ := hk
  obtain ⟨V, M1, a1, a2, a3, a4, a5⟩ := c_fewest hd1 hd hi g.1 ed h.2.2.2.2.2.2.1
  have h1 := h.kp (a4.kp (fun a z => by omega))
  have e123 : M1.1 123 = M.1 123 := a4.2 123 (by omega)
  have hD1 : M1.1 123 1 = nI d := by rw [e123, g.w1]; exact ed
  have he : eqv n np V (VR M1.1 0) := by
    have : VR M1.1 0 = VR M.1 0 := by unfold VR; rw [e123]
    rw [this]
    exact eqv_tr a3 g.2.1
  obtain ⟨M2, b1, b2⟩ := r_few_22 (M0 := M1) (k := b) (kn := kn) hd1 hd hi hD1 a2 he hk 6 0 gx_N M1 (by omega) (by unfold gx_N; omega) frW.rf
  rw [lf_eq (g := fun T => fv d n i T V) (fun T hT => fv_fx (by omega) T V hT) 6 0 (fun S hS => by omega)] at b2
  have b2' : fX11_few_22 gx_N 122 (nI i) b 0 (lay M1) = _ := b2
  rw [a1, gx_bd_some]
  refine ⟨match lf (fun T => fv d n i T V) 6 0 with
    | some p => fwA d b kn p.1 p.2
    | none => -6, M1, M2, ?_, ?_, h1.kp (b1.kp (by omega))⟩
  · cases hq : lf (fun T => fv d n i T V) 6 0 with
    | none =>
      rw [if_pos (show lfI none = -1 from rfl)]
    | some p =>
      obtain ⟨p5, pr⟩ := a5 p hq
      rw [if_neg (show ¬ lfI (some p) = -1 from lkI_some (by omega))]
      show _ = some (fwA d b kn p.1 p.2, lay M1)
      unfold fwA
      by_cases z1 : b = -1
      · rw [if_pos z1, if_pos z1]; rfl
      rw [if_neg z1, if_neg z1]
      by_cases z2 : nI p.1 ≤ b
      · rw [if_pos z2, if_pos (show lfI (some p) ≤ b from z2)]
      rw [if_neg z2, if_neg (show ¬ lfI (some p) ≤ b from z2)]
      obtain ⟨rfl, hkn⟩ := hk p.1 p5 z1 z2
      unfold fX5_rowAt fX5_rowAt_19
      rw [r_0_4, Option.bind_some, o_101, Option.bind_some, f10_within, gx_bd_some, b2_t ⟨show nI 0 ≤ nI kn from nI_le (by omega) (by omega), show nI kn ≤ nI 4 from nI_le (by omega) (by omega)⟩, if_neg (by decide), r_101_3, Option.bind_some, aI_lay 5 (show isA 117 0 5 = true by decide) (by decide) (show kn < 5 by omega) (by decide), Option.bind_some, gx_bd_some, pr kn hkn]
  · rw [show M1.1 123 3 = M.1 123 3 by rw [e123], b2_t c1', if_neg (by decide), if_pos c2, b2']
