/-! rather, without: the best of several boards -/
section RW
variable {d n np i T : Nat} {V : Nat → Int32}
theorem SS_hq {P : Nat → Nat} {l : Nat} (h : V 0 = nI l) : SS d n P (Fq i l) T V = SS d n P (Fh i) T V := by
  unfold SS
  refine sm_eq _ (fun x _ => ?_)
  try dsimp only
  unfold Fq Fh
  rw [plP_o (j := 0) (by omega), h]
theorem SS_h1 : SS d n (fun _ => i) (Fh i) T V ≤ d ^ T * 1 := SS_le (fun x => by unfold Fh; split <;> omega)
theorem eqv_upd {W : Nat → Int32} {j : Nat} {y : Int32} (h : eqv n np V W) : eqv n np (upd V j y) (upd W j y) := eqv_iff.mpr (fun k hk => by
  by_cases e : k = j
  · subst e; rw [upd_s, upd_s]
  · rw [upd_n _ _ e, upd_n _ _ e]; exact eqv_iff.mp h k hk)
theorem okV_u32 {p l : Nat} (h : okV V n np) (hl : V 0 = nI l) (hp : p ≤ l) (h40 : l ≤ 40) (hi : i < 4) : okV (upd V (32 + i) (nI p)) n np := by
  obtain ⟨a1, a2, a3, a4, a5, a6, a7, a8⟩ := h
  have e0 : upd V (32 + i) (nI p) 0 = V 0 := upd_n _ _ (by omega)
  refine ⟨by rw [upd_n _ _ (by omega)]; exact a1, a2, by rw [upd_n _ _ (by omega)]; exact a3, a4, by rw [e0]; exact a5, by rw [upd_n _ _ (by omega)]; exact a6, fun k hk => ?_, fun j hj => ?_⟩
  · rw [e0, upd_n _ _ (by omega), upd_n _ _ (by omega)]; exact a7 k hk
  · rw [e0, upd_n _ _ (show 36 + j ≠ 32 + i by omega)]
    refine ⟨?_, (a8 j hj).2⟩
    by_cases e : j = i
    · subst e
      rw [upd_s, hl, nI_toInt (by omega)]
      exact nI_bn (by omega) (by omega) (by omega)
    · rw [upd_n _ _ (by omega)]; exact (a8 j hj).1
theorem okV_u10 {k : Nat} {y : Int32} (h : okV V n np) (hk : k < 6) : okV (upd V (10 + k) y) n np := by
  obtain ⟨a1, a2, a3, a4, a5, a6, a7, a8⟩ := h
  have e : ∀ j, j < 10 ∨ 16 ≤ j → upd V (10 + k) y j = V j := fun j hj => upd_n _ _ (by omega)
  exact ⟨by rw [e 2 (by omega)]; exact a1, a2, by rw [e 3 (by omega)]; exact a3, a4, by rw [e 0 (by omega)]; exact a5, by rw [e 1 (by omega)]; exact a6, fun j hj => by rw [e 0 (by omega), e _ (by omega), e _ (by omega)]; exact a7 j hj, fun j hj => by rw [e 0 (by omega), e _ (by omega), e _ (by omega)]; exact a8 j hj⟩
theorem r_tpU {M : mm} {x j : Nat} {y : Int32} (hd1 : 2 ≤ d) (hd : d ≤ 6) (hi : i < np) (hT : T ≤ 5) (hx : x < 2147483648) (hj : j < 40) (hj1 : j ≠ 1) (hD : M.1 123 1 = nI d) (hn : n ≤ 6) (hp : np ≤ 4) (hok : okV (upd V j y) n np) (he : eqv n np V (VR M.1 0)) : ∃ M1 M', fX11_tries 122 (lay M) = some ((), lay M1) ∧ fX11_plays 122 (nI i) (nI x) (nI T) (lay (sI M1 123 (812 + j) y)) = some ((), lay M') ∧ eqv n np (plP d n (fun _ => i) T x (upd V j y)) (VR M'.1 812) ∧ frW 812 852 M M' := by
  obtain ⟨M1, t1, t2, t3⟩ := r_tries M
  have q1 : eqv n np V (VR M1.1 812) := eqv_low he hn hp t3
  have eV : VR (sI M1 123 (812 + j) y).1 812 = upd (VR M1.1 812) j y := VR_up M1.1 812 j y
  have q2 : eqv n np (upd V j y) (VR (sI M1 123 (812 + j) y).1 812) := by rw [eV]; exact eqv_upd q1
  obtain ⟨M2, u1, u2, u3⟩ := r_plays (M := sI M1 123 (812 + j) y) hd1 hd hi hT hx (by rw [sI_n (by omega), t2.2.2 1 (by omega)]; exact hD) (eqv_ok q2 hok)
  refine ⟨M1, M2, t1, u1, ?_, (t2.put (by omega) (by omega)).tr u3⟩
  rw [u2, play_P]
  exact eqv_plP (fun _ => hi) T x _ _ q2
def cB1 (o : Option (Nat × Nat)) : Int32 := match o with
  | some p => nI p.1
  | none => -1
def cB2 (o : Option (Nat × Nat)) : Int32 := match o with
  | some p => nI p.2
  | none => -1
def rB1 (o : Option (Nat × Nat)) : Int32 := match o with
  | some p => nI p.1
  | none => 0
def bs (f : Nat → Nat) : Nat → Option (Nat × Nat)
  | 0 => none
  | p + 1 => match bs f p with
    | none => some (p, f p)
    | some z => if f p < z.2 then some z else some (p, f p)
def ws (f : Nat → Nat) : Nat → Option (Nat × Nat)
  | 0 => none
  | p + 1 => match ws f p with
    | none => some (p, f p)
    | some z => if f p ≤ z.2 then some z else some (p, f p)
theorem bs_le {f : Nat → Nat} {B : Nat} (h : ∀ p, f p ≤ B) : ∀ (p : Nat) (z : Nat × Nat), bs f p = some z → z.2 ≤ B
  | 0, z, e => by cases e
  | p + 1, z, e => by
    unfold bs at e
    cases hq : bs f p with
    | none => rw [hq] at e; cases e; exact h p
    | some y =>
      rw [hq] at e
      dsimp only at e
      split at e
      · cases e; exact bs_le h p _ hq
      · cases e; exact h p
theorem ws_le {f : Nat → Nat} {B : Nat} (h : ∀ p, f p ≤ B) : ∀ (p : Nat) (z : Nat × Nat), ws f p = some z → z.2 ≤ B
  | 0, z, e => by cases e
  | p + 1, z, e => by
    unfold ws at e
    cases hq : ws f p with
    | none => rw [hq] at e; cases e; exact h p
    | some y =>
      rw [hq] at e
      dsimp only at e
      split at e
      · cases e; exact ws_le h p _ hq
      · cases e; exact h p
theorem bs_s {f : Nat → Nat} {B p : Nat} (h : ∀ p, f p ≤ B) (hB : B ≤ 10000) : bs f (p + 1) = if nI (f p) < cB2 (bs f p) then bs f p else some (p, f p) := by
  have hp := h p
  show (match bs f p with
    | none => some (p, f p)
    | some z => if f p < z.2 then some z else some (p, f p)) = _
  cases hq : bs f p with
  | none => rw [if_neg (show ¬ nI (f p) < cB2 none from by show ¬ nI (f p) < -1; rw [t_lt, nI_toInt (by omega), show (-1 : Int32).toInt = -1 by decide]; omega)]
  | some z =>
    have hz := bs_le h p z hq
    dsimp only
    by_cases c : f p < z.2
    · rw [if_pos c, if_pos (show nI (f p) < cB2 (some z) from nI_lt (b := z.2) c (by omega))]
    · rw [if_neg c, if_neg (show ¬ nI (f p) < cB2 (some z) from by show ¬ nI (f p) < nI z.2; rw [t_lt, nI_toInt (by omega), nI_toInt (by omega)]; omega)]
theorem ws_s {f : Nat → Nat} {B p : Nat} (h : ∀ p, f p ≤ B) (hB : B ≤ 10000) : ws f (p + 1) = if nI (f p) ≤ cB2 (ws f p) then ws f p else some (p, f p) := by
  have hp := h p
  show (match ws f p with
    | none => some (p, f p)
    | some z => if f p ≤ z.2 then some z else some (p, f p)) = _
  cases hq : ws f p with
  | none => rw [if_neg (show ¬ nI (f p) ≤ cB2 none from by show ¬ nI (f p) ≤ -1; rw [t_le, nI_toInt (by omega), show (-1 : Int32).toInt = -1 by decide]; omega)]
  | some z =>
    have hz := ws_le h p z hq
    dsimp only
    by_cases c : f p ≤ z.2
    · rw [if_pos c, if_pos (show nI (f p) ≤ cB2 (some z) from nI_le (b := z.2) c (by omega))]
    · rw [if_neg c, if_neg (show ¬ nI (f p) ≤ cB2 (some z) from nI_ge (by omega) (by omega))]
theorem bs_some {f : Nat → Nat} : ∀ (p : Nat), 0 < p → ∃ z, bs f p = some z
  | 0, h => by omega
  | p + 1, _ => by
    unfold bs
    cases bs f p with
    | none => exact ⟨_, rfl⟩
    | some z =>
      dsimp only
      split
      · exact ⟨_, rfl⟩
      · exact ⟨_, rfl⟩
/-- what the outlook's searches keep -/
def frO (M M' : mm) : Prop := M'.2 = M.2 ∧ ∀ a, a < 101 ∨ 117 ≤ a → M'.1 a = M.1 a
theorem frO.rf {M : mm} : frO M M := ⟨rfl, fun _ _ => rfl⟩
theorem frO.tr {M M' M'' : mm} (h : frO M M') (h2 : frO M' M'') : frO M M'' := ⟨h2.1.trans h.1, fun a p => (h2.2 a p).trans (h.2 a p)⟩
theorem frO.p67 {M : mm} {x y : Int32} : frO M (sI (sI M 101 6 x) 101 7 y) := ⟨rfl, fun a ha => by rw [sI_o (by omega), sI_o (by omega)]⟩
theorem frO_kp {M M' : mm} (h : frO M M') : kp M M' := by
  obtain ⟨h1, h2⟩ := h
  exact ⟨by rw [h1], by rw [h1], by rw [h1], by rw [h1], fun a ha => h2 a (by omega), by rw [h2 90 (by omega)], by rw [h2 122 (by omega)], fun j hj => by rw [h2 123 (by omega)]⟩
theorem c_best_21 {l : Nat} (hd1 : 2 ≤ d) (hd : d ≤ 6) (hi : i < np) (hT : T ≤ 5) (hl : l ≤ 40) (hok : okV V n np) (h0 : V 0 = nI l) (h1 : V 1 = nI d) : ∀ (m p F : Nat) (M : mm), p + m = l → m < F → (∃ s, VC M.1 102 = upd V (32 + i) s) → (∀ j, j < 5 → M.2.2 110 j = some (111 + j)) → M.1 101 6 = cB1 (bs (fun p => SS d n (fun _ => i) (Fh i) T (upd V (32 + i) (nI p))) p) → M.1 101 7 = cB2 (bs (fun p => SS d n (fun _ => i) (Fh i) T (upd V (32 + i) (nI p))) p) → ∃ M', fX5_findBestSquare_21 F 101 (nI i) (nI T) (nI p) (lay M) = some ((), lay M') ∧ frO M M' ∧ M'.1 101 6 = cB1 (bs (fun p => SS d n (fun _ => i) (Fh i) T (upd V (32 + i) (nI p))) l) ∧ M'.1 101 7 = cB2 (bs (fun p => SS d n (fun _ => i) (Fh i) T (upd V (32 + i) (nI p))) l)
  | m, p, 0, M, _, hF, _, _, _, _ => by omega
  | 0, p, F + 1, M, hp, _, ⟨s, hV⟩, hP, e6, e7 => by
    have h4 : i < 4 := Nat.lt_of_lt_of_le hi hok.2.2.2.1
    have e : p = l := by omega
    subst e
    have hL : M.1 102 0 = nI p := by rw [← VC_0 M.1 102 (by omega), hV, upd_n _ _ (by omega)]; exact h0
    show ∃ M', bX5_findBestSquare_21 (fX5_findBestSquare_21 F) 101 (nI i) (nI T) (nI p) (lay M) = _ ∧ _
    unfold bX5_findBestSquare_21
    rw [r_101_0, Option.bind_some, bi0 brd_102, Option.bind_some, hL, if_pos (nI_le (by omega) (by omega))]
    exact ⟨M, rfl, frO.rf, e6, e7⟩
  | m + 1, p, F + 1, M, hp, hF, ⟨s, hV⟩, hP, e6, e7 => by
    have h4 : i < 4 := Nat.lt_of_lt_of_le hi hok.2.2.2.1
    have hpw := pow_bd hd hT
    generalize hf : (fun p => SS d n (fun _ => i) (Fh i) T (upd V (32 + i) (nI p))) = f at *
    have hfb : ∀ p, f p ≤ 7776 := fun p => by
      rw [← hf]
      have := SS_h1 (d := d) (n := n) (i := i) (T := T) (V := upd V (32 + i) (nI p))
      show SS d n (fun _ => i) (Fh i) T (upd V (32 + i) (nI p)) ≤ _
      omega
    have hL : M.1 102 0 = nI l := by rw [← VC_0 M.1 102 (by omega), hV, upd_n _ _ (by omega)]; exact h0
    have hD : M.1 102 1 = nI d := by rw [← VC_0 M.1 102 (by omega), hV, upd_n _ _ (by omega)]; exact h1
    have eW : upd (VC M.1 102) (32 + i) (nI p) = upd V (32 + i) (nI p) := by rw [hV, upd_upd]
    obtain ⟨M1, a1, a2, a3, a4, a5⟩ := c_spreadFrom (M := M) (p := p) (n := n) (np := np) hd1 hd hi hT (by omega) (by rw [eW]; exact okV_u32 hok h0 (by omega) hl h4) hD hP
    rw [eW] at a3 a5
    have hL1 : M1.1 102 0 = nI l := by rw [← VC_0 M1.1 102 (by omega), a3, upd_n _ _ (by omega)]; exact h0
    have hr : M1.1 116 l = nI (f p) := by
      rw [a5 l hl, SS_hq (by rw [upd_n _ _ (by omega)]; exact h0), ← hf]
    have k1 : frO M M1 := ⟨a2, fun a ha => a4 a (by omega)⟩
    show ∃ M', bX5_findBestSquare_21 (fX5_findBestSquare_21 F) 101 (nI i) (nI T) (nI p) (lay M) = _ ∧ _
    unfold bX5_findBestSquare_21 fX5_findBestSquare_66
    rw [r_101_0, Option.bind_some, bi0 brd_102, Option.bind_some, hL, if_neg (nI_ge (by omega) (by omega)), a1, gx_bd_some, c_rowsHome hl hL1, gx_bd_some, i_101_7, Option.bind_some, hr, a4 101 (by omega), e7, nI_1]
    have hs := bs_s (f := f) (p := p) hfb (by omega)
    by_cases c : nI (f p) < cB2 (bs f p)
    · rw [if_pos c] at hs
      rw [if_pos c]
      subst hf
      obtain ⟨M2, b1, b2, b3, b4⟩ := c_best_21 hd1 hd hi hT hl hok h0 h1 m (p + 1) F M1 (by omega) (by omega) ⟨_, a3⟩ (by rw [a2]; exact hP) (by rw [hs, a4 101 (by omega)]; exact e6) (by rw [hs, a4 101 (by omega)]; exact e7)
      exact ⟨M2, b1, k1.tr b2, b3, b4⟩
    · rw [if_neg c] at hs
      rw [if_neg c, pi_101_6, Option.bind_some, c_rowsHome hl (by rw [sI_o (by omega)]; exact hL1), gx_bd_some, pi_101_7, Option.bind_some, sI_o (show 116 ≠ 101 by omega), hr]
      subst hf
      obtain ⟨M2, b1, b2, b3, b4⟩ := c_best_21 hd1 hd hi hT hl hok h0 h1 m (p + 1) F (sI (sI M1 101 6 (nI p)) 101 7 (nI (SS d n (fun _ => i) (Fh i) T (upd V (32 + i) (nI p))))) (by omega) (by omega) ⟨nI p, by
        show VC (up2 (up2 M1.1 101 6 (nI p)) 101 7 _) 102 = _
        rw [VC_out _ _ (by omega), VC_out _ _ (by omega)]; exact a3⟩ (by show ∀ j, j < 5 → M1.2.2 110 j = _; rw [a2]; exact hP) (by rw [hs, sI_n (by omega), sI_s]; rfl) (by rw [hs, sI_s]; rfl)
      exact ⟨M2, b1, k1.tr ((frO.p67 (M := M1)).tr b2), b3, b4⟩
theorem r_rather_70 {M0 : mm} {p : Nat} {v3 v4 v5 : Int32} (hd1 : 2 ≤ d) (hd : d ≤ 6) (hi : i < np) (hT : T ≤ 5) (hD : M0.1 123 1 = nI d) (hn : n ≤ 6) (hp4 : np ≤ 4) (hok : okV (upd V (32 + i) (nI p)) n np) (he : eqv n np V (VR M0.1 0)) (k53 : Nat → Int32 → Int32 → Int32 → Int32 → Int32 → Int32 → Int32 → gx_H → Option (Int32 × gx_H)) : ∀ (m x F : Nat) (M : mm), x + m = d ^ T → m < F → frW 812 852 M0 M → ∃ M', frW 812 852 M0 M' ∧ fX11_rather_70 k53 F 122 (nI i) (nI T) v3 v4 v5 (nI (d ^ T)) (nI p) (nI (sm (fun x => Fh i (plP d n (fun _ => i) T x (upd V (32 + i) (nI p)))) x)) (nI x) (lay M) = k53 122 (nI i) (nI T) v3 (if nI (SS d n (fun _ => i) (Fh i) T (upd V (32 + i) (nI p))) < v5 then v4 else nI p) (if nI (SS d n (fun _ => i) (Fh i) T (upd V (32 + i) (nI p))) < v5 then v5 else nI (SS d n (fun _ => i) (Fh i) T (upd V (32 + i) (nI p)))) (nI (d ^ T)) (nI (p + 1)) (lay M')
  | m, x, 0, M, _, hF, _ => by omega
  | 0, x, F + 1, M, hx, _, hf => by
    have hpw := pow_bd hd hT
    have e : x = d ^ T := by omega
    show ∃ M', _ ∧ bX11_rather_70 k53 (fX11_rather_70 k53 F) 122 (nI i) (nI T) v3 v4 v5 (nI (d ^ T)) (nI p) (nI (sm (fun x => Fh i (plP d n (fun _ => i) T x (upd V (32 + i) (nI p)))) x)) (nI x) (lay M) = _
    rw [e]
    show ∃ M', _ ∧ bX11_rather_70 k53 (fX11_rather_70 k53 F) 122 (nI i) (nI T) v3 v4 v5 (nI (d ^ T)) (nI p) (nI (SS d n (fun _ => i) (Fh i) T (upd V (32 + i) (nI p)))) (nI (d ^ T)) (lay M) = _
    unfold bX11_rather_70 fX11_rather_142 fX11_rather_158
    rw [if_pos (nI_le (by omega) (by omega)), nI_1]
    refine ⟨M, hf, ?_⟩
    by_cases c : nI (SS d n (fun _ => i) (Fh i) T (upd V (32 + i) (nI p))) < v5
    · simp only [if_pos c]
    · simp only [if_neg c]
  | m + 1, x, F + 1, M, hx, hF, hf => by
    have hpw := pow_bd hd hT
    have h4 : i < 4 := by omega
    have hD' : M.1 123 1 = nI d := by rw [hf.lo (by omega)]; exact hD
    show ∃ M', _ ∧ bX11_rather_70 k53 (fX11_rather_70 k53 F) 122 (nI i) (nI T) v3 v4 v5 (nI (d ^ T)) (nI p) (nI (sm (fun x => Fh i (plP d n (fun _ => i) T x (upd V (32 + i) (nI p)))) x)) (nI x) (lay M) = _
    unfold bX11_rather_70 fX11_rather_119
    obtain ⟨M1, M2, a1, a2, a3, a4⟩ := r_tpU (M := M) (x := x) (V := V) (j := 32 + i) (y := nI p) hd1 hd hi hT (by omega) (by omega) (by omega) hD' hn hp4 hok (hf.V0 hn hp4 he)
    rw [show 812 + (32 + i) = 844 + i by omega] at a2
    rw [if_neg (nI_ge (by omega) (by omega)), a1, gx_bd_some, r_122_0, Option.bind_some, show (844 : Int32) = nI 844 from rfl, nI_add, rs (by omega), Option.bind_some, a2, gx_bd_some, r_hm hi hp4 a3, gx_bd_some, nI_1]
    have ih := r_rather_70 (M0 := M0) (p := p) (v3 := v3) (v4 := v4) (v5 := v5) hd1 hd hi hT hD hn hp4 hok he k53 m (x + 1) F M2 (by omega) (by omega) (hf.tr a4)
    rw [show sm (fun x => Fh i (plP d n (fun _ => i) T x (upd V (32 + i) (nI p)))) (x + 1) = sm (fun x => Fh i (plP d n (fun _ => i) T x (upd V (32 + i) (nI p)))) x + Fh i (plP d n (fun _ => i) T x (upd V (32 + i) (nI p))) from rfl] at ih
    by_cases c : plP d n (fun _ => i) T x (upd V (32 + i) (nI p)) (32 + i) = plP d n (fun _ => i) T x (upd V (32 + i) (nI p)) 0
    · rw [show Fh i (plP d n (fun _ => i) T x (upd V (32 + i) (nI p))) = 1 from if_pos c] at ih
      rw [b2_t c, if_neg (by decide), nI_1]
      exact ih
    · rw [show Fh i (plP d n (fun _ => i) T x (upd V (32 + i) (nI p))) = 0 from if_neg c, Nat.add_zero] at ih
      rw [b2_f c, if_pos (show (0 : Int32) = 0 from rfl), Int32.add_zero]
      exact ih
theorem r_rather_53 {M0 : mm} {l : Nat} {v3 : Int32} (hd1 : 2 ≤ d) (hd : d ≤ 6) (hi : i < np) (hT : T ≤ 5) (hl : l ≤ 40) (hD : M0.1 123 1 = nI d) (hL : M0.1 123 0 = nI l) (h0 : V 0 = nI l) (hok : okV V n np) (he : eqv n np V (VR M0.1 0)) : ∀ (m p F : Nat) (M : mm), p + m = l → m < F → frW 812 852 M0 M → ∃ M', frW 812 852 M0 M' ∧ fX11_rather_53 F 122 (nI i) (nI T) v3 (rB1 (bs (fun p => SS d n (fun _ => i) (Fh i) T (upd V (32 + i) (nI p))) p)) (cB2 (bs (fun p => SS d n (fun _ => i) (Fh i) T (upd V (32 + i) (nI p))) p)) (nI (d ^ T)) (nI p) (lay M) = some (if v3 = 0 then rB1 (bs (fun p => SS d n (fun _ => i) (Fh i) T (upd V (32 + i) (nI p))) l) else cB2 (bs (fun p => SS d n (fun _ => i) (Fh i) T (upd V (32 + i) (nI p))) l), lay M')
  | m, p, 0, M, _, hF, _ => by omega
  | 0, p, F + 1, M, hp, _, hf => by
    have e : p = l := by omega
    subst e
    show ∃ M', _ ∧ bX11_rather_53 (fX11_rather_53 F) 122 (nI i) (nI T) v3 _ _ (nI (d ^ T)) (nI p) (lay M) = _
    generalize bs (fun p => SS d n (fun _ => i) (Fh i) T (upd V (32 + i) (nI p))) p = o
    unfold bX11_rather_53 fX11_rather_177
    rw [r_122_0, Option.bind_some, show gx_aI 0 (lay M) 123 0 = some (M.1 123 0) from ra (k := 0) (by omega), Option.bind_some, hf.lo (by omega), hL, if_pos (nI_le (by omega) (by omega))]
    refine ⟨M, hf, ?_⟩
    by_cases c : v3 = 0
    · rw [if_pos c, if_pos c]
    · rw [if_neg c, if_neg c]
  | m + 1, p, F + 1, M, hp, hF, hf => by
    have hpw := pow_bd hd hT
    have hn := hok.2.1
    have hp4 := hok.2.2.2.1
    show ∃ M', _ ∧ bX11_rather_53 (fX11_rather_53 F) 122 (nI i) (nI T) v3 _ _ (nI (d ^ T)) (nI p) (lay M) = _
    have hfb : ∀ p, (fun p => SS d n (fun _ => i) (Fh i) T (upd V (32 + i) (nI p))) p ≤ 7776 := fun p => by
      have := SS_h1 (d := d) (n := n) (i := i) (T := T) (V := upd V (32 + i) (nI p))
      show SS d n (fun _ => i) (Fh i) T (upd V (32 + i) (nI p)) ≤ _
      omega
    have hs := bs_s (f := fun p => SS d n (fun _ => i) (Fh i) T (upd V (32 + i) (nI p))) (p := p) hfb (by omega)
    try dsimp only at hs
    unfold bX11_rather_53
    rw [r_122_0, Option.bind_some, show gx_aI 0 (lay M) 123 0 = some (M.1 123 0) from ra (k := 0) (by omega), Option.bind_some, hf.lo (by omega), hL, if_neg (nI_ge (by omega) (by omega))]
    obtain ⟨M1, a1, a2⟩ := r_rather_70 (M0 := M0) (V := V) (p := p) (v3 := v3) (v4 := rB1 (bs (fun p => SS d n (fun _ => i) (Fh i) T (upd V (32 + i) (nI p))) p)) (v5 := cB2 (bs (fun p => SS d n (fun _ => i) (Fh i) T (upd V (32 + i) (nI p))) p)) hd1 hd hi hT hD hn hp4 (okV_u32 hok h0 (by omega) hl (by omega)) he (fX11_rather_53 F) (d ^ T) 0 gx_N M (by omega) (by unfold gx_N; omega) hf
    have a2' : fX11_rather_70 (fX11_rather_53 F) gx_N 122 (nI i) (nI T) v3 (rB1 (bs (fun p => SS d n (fun _ => i) (Fh i) T (upd V (32 + i) (nI p))) p)) (cB2 (bs (fun p => SS d n (fun _ => i) (Fh i) T (upd V (32 + i) (nI p))) p)) (nI (d ^ T)) (nI p) 0 0 (lay M) = _ := a2
    rw [a2']
    obtain ⟨M2, b1, b2⟩ := r_rather_53 (v3 := v3) hd1 hd hi hT hl hD hL h0 hok he m (p + 1) F M1 (by omega) (by omega) a1
    refine ⟨M2, b1, ?_⟩
    rw [hs] at b2
    rw [← b2]
    by_cases c : nI (SS d n (fun _ => i) (Fh i) T (upd V (32 + i) (nI p))) < cB2 (bs (fun p => SS d n (fun _ => i) (Fh i) T (upd V (32 + i) (nI p))) p)
    · simp only [if_pos c]
    · simp only [if_neg c]
      rfl
end RW
theorem op_rather (a b c : Int32) : Op (fX10_rather 0 a b c) (fX11_rather 122 a b c) := by
  intro M h
  obtain ⟨n, np, hs, q, g⟩ := h.gm
  have hn6 := g.n6
  have hp4 := g.np6
  unfold fX10_rather fX11_rather fX10_rather_26 fX11_rather_30 fX10_rather_70
  simp only [o_0, o_122, r_0_0, r_0_4, r_1_0, f10_isPlayer, f11_isPlayer, f10_within, f11_in, Option.bind_some, gx_bd_some, f10_bad, f11_bad', show (0 : Int64) = (0 : Int32).toInt64 from rfl, show (4 : Int64) = (4 : Int32).toInt64 from rfl, show (1 : Int64) = (1 : Int32).toInt64 from rfl, b_le]
  have eB : (badC M).1 123 = M.1 123 := by unfold badC; rw [sI_o (by omega)]
  by_cases c1 : 0 ≤ a ∧ a ≤ M.1 2 3 - 1
  case neg =>
    rw [b2_f c1, if_pos rfl]
    refine ⟨_, badC M, badR (badC M), rfl, ?_, h.bad⟩
    rw [eB, b2_f (fun z => c1 ((g.pl _).mp z)), if_pos rfl]
  rw [b2_t c1, if_neg (by decide)]
  have c1' := (g.pl _).mpr c1
  by_cases c2 : 1 ≤ b ∧ b ≤ 4
  case neg =>
    rw [b2_f c2, if_pos rfl]
    refine ⟨_, badC M, badR (badC M), rfl, ?_, h.bad⟩
    rw [eB, b2_t c1', if_neg (by decide), if_pos rfl]
  rw [b2_t c2, if_neg (by decide)]
  by_cases c3 : 0 ≤ c ∧ c ≤ 1
  case neg =>
    rw [b2_f c3, if_pos rfl]
    refine ⟨_, badC M, badR (badC M), rfl, ?_, h.bad⟩
    rw [eB, b2_t c1', if_neg (by decide), if_neg (by decide), if_pos rfl]
  rw [b2_t c3, if_neg (by decide)]
  obtain ⟨i, hi, rfl⟩ := g.isP c1
  obtain ⟨T, hT1, hT, rfl⟩ := in_n (a := 1) (b := 4) (by omega) c2 (by omega)
  have hD := g.D
  obtain ⟨d, hd, ed⟩ := bn_nI (x := M.1 2 1) (n := 6) ⟨by have := hD.1; omega, hD.2⟩
  have hd1 : 2 ≤ d := by have := hD.1; rw [ed, nI_toInt (by omega)] at this; omega
  have hL := g.L
  obtain ⟨l, hl, el⟩ := bn_nI (x := M.1 2 0) (n := 40) ⟨by have := hL.1; omega, hL.2⟩
  have hl1 : 10 ≤ l := by have := hL.1; rw [el, nI_toInt (by omega)] at this; omega
  have hp := pow_bd hd (show T ≤ 5 by omega)
  obtain ⟨M1, a1, a2, a3, a4, a5, a6, a7, a8⟩ := c_out g.1
  generalize hV : VC M1.1 102 = V at a3 a4
  have hV0 : V 0 = nI l := by rw [a4.1, VC_0 _ _ (by omega)]; exact el
  have hV1 : V 1 = nI d := by rw [a4.2.1, VC_0 _ _ (by omega)]; exact ed
  obtain ⟨Ma, b1, b2, b3, b4⟩ := c_best_21 (V := V) (T := T) hd1 hd hi (by omega) hl a3 hV0 hV1 l 0 gx_N (sI (sI M1 101 6 (-1)) 101 7 (-1)) (by omega) (by unfold gx_N; omega) ⟨V (32 + i), by
    show VC (up2 (up2 M1.1 101 6 _) 101 7 _) 102 = _
    rw [VC_out _ _ (by omega), VC_out _ _ (by omega), hV, upd_self _ rfl]⟩ (by show ∀ j, j < 5 → M1.2.2 110 j = _; rw [a2.1]; exact h.2.2.2.2.2.2.1) (by rw [sI_n (by omega), sI_s]; rfl) (by rw [sI_s]; rfl)
  have kO : frO M Ma := ⟨b2.1.trans a2.1, fun a ha => by rw [b2.2 a ha, sI_o (by omega), sI_o (by omega), a2.2 a (fun z => by unfold inB at z; omega)]⟩
  have b1' : fX5_findBestSquare_21 gx_N 101 (nI i) (nI T) 0 (lay (sI (sI M1 101 6 (-1)) 101 7 (-1))) = some ((), lay Ma) := b1
  have hcl : fX5_findBestSquare 101 2 (nI i) (nI T) (lay M) = some ((), lay Ma) := by
    unfold fX5_findBestSquare
    rw [o_101, Option.bind_some, r_101_0, Option.bind_some, a1, gx_bd_some, pi_101_6, Option.bind_some, pi_101_7, Option.bind_some]
    exact b1'
  have e123 : Ma.1 123 = M.1 123 := kO.2 123 (by omega)
  have h1 := h.kp (frO_kp kO)
  have he : eqv n np V (VR Ma.1 0) := by
    have : VR Ma.1 0 = VR M.1 0 := by unfold VR; rw [e123]
    rw [this]
    exact eqv_tr a4 g.2.1
  have hD1 : Ma.1 123 1 = nI d := by rw [e123, g.w1]; exact ed
  have hL1 : Ma.1 123 0 = nI l := by rw [e123, g.w0]; exact el
  obtain ⟨Mb, x1, x2⟩ := r_rather_53 (M0 := Ma) (V := V) (T := T) (v3 := c) hd1 hd hi (by omega) hl hD1 hL1 hV0 a3 he l 0 gx_N Ma (by omega) (by unfold gx_N; omega) frW.rf
  have x2' : fX11_rather_53 gx_N 122 (nI i) (nI T) c 0 (-1) (nI (d ^ T)) 0 (lay Ma) = _ := x2
  obtain ⟨z, ez⟩ := bs_some (f := fun p => SS d n (fun _ => i) (Fh i) T (upd V (32 + i) (nI p))) l (by omega)
  rw [ez] at b3 b4 x2'
  rw [hcl, gx_bd_some]
  simp only [r_0_0, r_0_4, r_1_0, Option.bind_some]
  refine ⟨if c = 0 then nI z.1 else nI z.2, Ma, Mb, ?_, ?_, h1.kp (x1.kp (by omega))⟩
  · rw [i_101_6, i_101_7, Option.bind_some, Option.bind_some, b3, b4]
    by_cases y : c = 0
    · rw [if_pos y, if_pos y]; rfl
    · rw [if_neg y, if_neg y]; rfl
  · rw [e123, b2_t c1', if_neg (by decide), if_neg (by decide), if_neg (by decide), r_rowsOf hD1 (by omega), gx_bd_some, x2']
    rfl
