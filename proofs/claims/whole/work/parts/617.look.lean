/-! look: both sides are one search -/
def cb : Option (Nat × Nat) → Int32 × Int32
  | none => (-1, 7)
  | some p => (nI p.1, nI p.2)
def rb : Option (Nat × Nat) → Int32 × Int32
  | none => (-1, 1000000)
  | some p => (nI p.1, nI p.2)
def okB (B : Option (Nat × Nat)) : Prop := ∀ p, B = some p → p.2 ≤ 6
def nb (B : Option (Nat × Nat)) (c x : Nat) : Option (Nat × Nat) := match B with
  | none => some (c, x)
  | some p => if p.2 ≤ x then some p else some (c, x)
theorem okB_nb {B : Option (Nat × Nat)} {c x : Nat} (h : okB B) (hx : x ≤ 6) : okB (nb B c x) := by
  intro p hp
  unfold nb at hp
  cases B with
  | none => cases hp; exact hx
  | some p0 =>
    dsimp only at hp
    split at hp
    · cases hp; exact h p rfl
    · cases hp; exact hx
theorem cb_nb {B : Option (Nat × Nat)} {c x : Nat} (h : okB B) (hx : x ≤ 6) : cb (nb B c x) = if (cb B).2 ≤ nI x then cb B else (nI c, nI x) := by
  cases B with
  | none => rw [if_neg (show ¬ (cb none).2 ≤ nI x from nI_ge (b := 7) (by omega) (by omega))]; rfl
  | some p =>
    have := h p rfl
    show cb (if p.2 ≤ x then some p else some (c, x)) = if nI p.2 ≤ nI x then cb (some p) else (nI c, nI x)
    by_cases z : p.2 ≤ x
    · rw [if_pos z, if_pos (nI_le z (by omega))]
    · rw [if_neg z, if_neg (nI_ge (by omega) (by omega))]; rfl
theorem rb_nb {B : Option (Nat × Nat)} {c x : Nat} (h : okB B) (hx : x ≤ 6) : rb (nb B c x) = if (rb B).2 ≤ nI x then rb B else (nI c, nI x) := by
  cases B with
  | none => rw [if_neg (show ¬ (rb none).2 ≤ nI x from nI_ge (b := 1000000) (by omega) (by omega))]; rfl
  | some p =>
    have := h p rfl
    show rb (if p.2 ≤ x then some p else some (c, x)) = if nI p.2 ≤ nI x then rb (some p) else (nI c, nI x)
    by_cases z : p.2 ≤ x
    · rw [if_pos z, if_pos (nI_le z (by omega))]
    · rw [if_neg z, if_neg (nI_ge (by omega) (by omega))]; rfl
def fR (X : Nat → Nat → Nat) (w u : Nat) : Nat → Nat → Option (Nat × Nat) → Option (Nat × Nat)
  | 0, _, B => B
  | m + 1, r, B => fR X w u m (r + 1) (nb B (w * u + r) (X u r))
def fU (X : Nat → Nat → Nat) (w : Nat) : Nat → Nat → Option (Nat × Nat) → Option (Nat × Nat)
  | 0, _, B => B
  | m + 1, u, B => fU X w m (u + 1) (fR X w u 6 1 B)
theorem okB_fR {X : Nat → Nat → Nat} {w u : Nat} (hX : ∀ r, X u r ≤ 6) : ∀ (m r : Nat) (B : Option (Nat × Nat)), okB B → okB (fR X w u m r B)
  | 0, _, B, h => h
  | m + 1, r, B, h => okB_fR hX m (r + 1) _ (okB_nb h (hX r))
section CL
variable {M : mm} {l : Nat} {v : Int32} {LL : Nat → Nat → Nat → Int32}
def XX (v : Int32) (LL : Nat → Nat → Nat → Int32) (u r : Nat) : Nat := mA v (LL u r) 6 0 0
theorem XX_le (v : Int32) (LL : Nat → Nat → Nat → Int32) (u r : Nat) : XX v LL u r ≤ 6 := mA_le _ _ _ _ _ (by omega)
theorem i10 (u r : Nat) : (10 : Int32) * nI u + nI r = nI (10 * u + r) := by rw [show (10 : Int32) = nI 10 from rfl, pk_mul, nI_add]
theorem c_look_43 {u r : Nat} (hlead : ∀ M', fr (fun a => a = 121) M M' → ∀ k, k < 6 → fX2_lead 2 (nI l) (nI k) (nI u) (nI r) (lay M') = some (LL u r k, lay M')) {B : Option (Nat × Nat)} (hB : okB B) (k19 : Nat → Nat → Int32 → Int32 → Int32 → Int32 → Int32 → gx_H → Option (Int32 × gx_H)) (k33 : Nat → Nat → Int32 → Int32 → Int32 → Int32 → Int32 → Int32 → gx_H → Option (Int32 × gx_H)) : ∀ (m k F : Nat) (M' : mm), k + m = 6 → m < F → fr (fun a => a = 121) M M' → (∀ i, i < k → M'.1 121 i = LL u r i) → ∃ M'', fX2_bestLook_43 k19 k33 F 120 2 (nI l) v (cb B).1 (cb B).2 (nI u) (nI r) (nI k) (lay M') = k33 120 2 (nI l) v (cb (nb B (10 * u + r) (XX v LL u r))).1 (cb (nb B (10 * u + r) (XX v LL u r))).2 (nI u) (nI (r + 1)) (lay M'') ∧ fr (fun a => a = 121) M M''
  | m, k, 0, M', _, hF, _, _ => by omega
  | 0, k, F + 1, M', hk, _, hf, hL => by
    show ∃ M'', bX2_bestLook_43 k19 k33 (fX2_bestLook_43 k19 k33 F) 120 2 (nI l) v (cb B).1 (cb B).2 (nI u) (nI r) (nI k) (lay M') = _ ∧ _
    unfold bX2_bestLook_43 fX2_bestLook_103
    have e : mA v (M'.1 121) 6 0 0 = XX v LL u r := mA_eq (fun i hi => hL i (by omega)) 6 0 0 (by omega)
    rw [if_pos (show (6 : Int32) ≤ nI k from nI_le (a := 6) (by omega) (by omega)), c_most, gx_bd_some, e, cb_nb hB (XX_le v LL u r), i10, nI_1]
    refine ⟨M', ?_, hf⟩
    by_cases z : (cb B).2 ≤ nI (XX v LL u r)
    · rw [if_pos z, if_pos z]
    · rw [if_neg z, if_neg z]
  | m + 1, k, F + 1, M', hk, hF, hf, hL => by
    show ∃ M'', bX2_bestLook_43 k19 k33 (fX2_bestLook_43 k19 k33 F) 120 2 (nI l) v (cb B).1 (cb B).2 (nI u) (nI r) (nI k) (lay M') = _ ∧ _
    unfold bX2_bestLook_43
    rw [if_neg (show ¬ (6 : Int32) ≤ nI k from nI_ge (b := 6) (by omega) (by omega)), r_120_0, Option.bind_some, hlead M' hf k (by omega), gx_bd_some, sI_lay 6 (show isA 121 0 6 = true by decide) (by decide) (show k < 6 by omega) (by decide), Option.bind_some, nI_1]
    refine c_look_43 hlead hB k19 k33 m (k + 1) F _ (by omega) (by omega) (hf.put rfl) (fun i hi => ?_)
    by_cases q : i = k
    · subst q; rw [sI_s]
    · rw [sI_n q]; exact hL i (by omega)
theorem c_look_33 {u : Nat} (hlead : ∀ r, 1 ≤ r → r ≤ 6 → ∀ M', fr (fun a => a = 121) M M' → ∀ k, k < 6 → fX2_lead 2 (nI l) (nI k) (nI u) (nI r) (lay M') = some (LL u r k, lay M')) (k19 : Nat → Nat → Int32 → Int32 → Int32 → Int32 → Int32 → gx_H → Option (Int32 × gx_H)) : ∀ (m r F : Nat) (B : Option (Nat × Nat)) (M' : mm), r + m = 7 → 1 ≤ r → m < F → okB B → fr (fun a => a = 121) M M' → ∃ M'', fX2_bestLook_33 k19 F 120 2 (nI l) v (cb B).1 (cb B).2 (nI u) (nI r) (lay M') = k19 120 2 (nI l) v (cb (fR (XX v LL) 10 u m r B)).1 (cb (fR (XX v LL) 10 u m r B)).2 (nI (u + 1)) (lay M'') ∧ fr (fun a => a = 121) M M''
  | m, r, 0, B, M', _, _, hF, _, _ => by omega
  | 0, r, F + 1, B, M', hr, _, _, hB, hf => by
    show ∃ M'', bX2_bestLook_33 k19 (fX2_bestLook_33 k19 F) 120 2 (nI l) v (cb B).1 (cb B).2 (nI u) (nI r) (lay M') = _ ∧ _
    unfold bX2_bestLook_33
    rw [if_pos (show (6 : Int32) < nI r from nI_lt (a := 6) (by omega) (by omega)), nI_1]
    exact ⟨M', rfl, hf⟩
  | m + 1, r, F + 1, B, M', hr, h1, hF, hB, hf => by
    show ∃ M'', bX2_bestLook_33 k19 (fX2_bestLook_33 k19 F) 120 2 (nI l) v (cb B).1 (cb B).2 (nI u) (nI r) (lay M') = _ ∧ _
    unfold bX2_bestLook_33
    rw [if_neg (show ¬ (6 : Int32) < nI r from by rw [t_lt, nI_toInt (by omega)]; show ¬ (6 : Int) < r; omega)]
    obtain ⟨M1, e1, f1⟩ := c_look_43 (v := v) (hlead r h1 (by omega)) hB k19 (fX2_bestLook_33 k19 F) 6 0 gx_N M' (by omega) (by unfold gx_N; omega) hf (fun i hi => by omega)
    obtain ⟨M2, e2, f2⟩ := c_look_33 hlead k19 m (r + 1) F (nb B (10 * u + r) (XX v LL u r)) M1 (by omega) (by omega) (by omega) (okB_nb hB (XX_le v LL u r)) f1
    exact ⟨M2, Eq.trans e1 e2, f2⟩
theorem c_look_19 (hv : ¬ v = 0) (hlead : ∀ u, u < 4 → ∀ r, 1 ≤ r → r ≤ 6 → ∀ M', fr (fun a => a = 121) M M' → ∀ k, k < 6 → fX2_lead 2 (nI l) (nI k) (nI u) (nI r) (lay M') = some (LL u r k, lay M')) : ∀ (m u F : Nat) (B : Option (Nat × Nat)) (M' : mm), u + m = 4 → m < F → okB B → fr (fun a => a = 121) M M' → ∃ M'', fX2_bestLook_19 F 120 2 (nI l) v (cb B).1 (cb B).2 (nI u) (lay M') = some ((cb (fU (XX v LL) 10 m u B)).1, lay M'') ∧ fr (fun a => a = 121) M M''
  | m, u, 0, B, M', _, hF, _, _ => by omega
  | 0, u, F + 1, B, M', hu, _, hB, hf => by
    show ∃ M'', bX2_bestLook_19 (fX2_bestLook_19 F) 120 2 (nI l) v (cb B).1 (cb B).2 (nI u) (lay M') = _ ∧ _
    unfold bX2_bestLook_19
    rw [if_pos (show (3 : Int32) < nI u from nI_lt (a := 3) (by omega) (by omega))]
    exact ⟨M', rfl, hf⟩
  | m + 1, u, F + 1, B, M', hu, hF, hB, hf => by
    show ∃ M'', bX2_bestLook_19 (fX2_bestLook_19 F) 120 2 (nI l) v (cb B).1 (cb B).2 (nI u) (lay M') = _ ∧ _
    unfold bX2_bestLook_19
    rw [if_neg (show ¬ (3 : Int32) < nI u from by rw [t_lt, nI_toInt (by omega)]; show ¬ (3 : Int) < u; omega), if_neg hv]
    obtain ⟨M1, e1, f1⟩ := c_look_33 (v := v) (hlead u (by omega)) (fX2_bestLook_19 F) 6 1 gx_N B M' (by omega) (by omega) (by unfold gx_N; omega) hB hf
    obtain ⟨M2, e2, f2⟩ := c_look_19 hv hlead m (u + 1) F (fR (XX v LL) 10 u 6 1 B) M1 (by omega) (by omega) (okB_fR (fun r => XX_le v LL u r) 6 1 B hB) f1
    exact ⟨M2, Eq.trans e1 e2, f2⟩
end CL
section RL
variable {M : mm} {l : Nat} {v : Int32} {LL : Nat → Nat → Nat → Int32}
theorem r_look_65 {u r k : Nat} (hk : k < 6) (hlead : ∀ k, k < 6 → fX11_leads 122 (nI k) (nI l) (nI u) (nI r) (lay M) = some (LL u r k, lay M)) (k30 : Nat → Int32 → Int32 → Int32 → Int32 → Int32 → gx_H → Option (Int32 × gx_H)) (k39 : Nat → Int32 → Int32 → Int32 → Int32 → Int32 → Int32 → gx_H → Option (Int32 × gx_H)) (k52 : Nat → Int32 → Int32 → Int32 → Int32 → Int32 → Int32 → Int32 → Int32 → gx_H → Option (Int32 × gx_H)) (b3 b4 : Int32) {x : Nat} (hx : x ≤ 6) : ∀ (m j F c : Nat), j + m = 6 → m < F → (hasB v k ∨ c = 0) → c ≤ j → fX11_look_65 k30 k39 k52 F 122 (nI l) v b3 b4 (nI u) (nI r) (nI x) (nI k) (nI c) (nI j) (lay M) = k52 122 (nI l) v b3 b4 (nI u) (nI r) (nI (if hasB v k then max x (cA v (LL u r) k m j c) else x)) (nI (k + 1)) (lay M)
  | m, j, 0, c, _, hF, _, _ => by omega
  | 0, j, F + 1, c, hj, _, hc, hcj => by
    show bX11_look_65 k30 k39 k52 (fX11_look_65 k30 k39 k52 F) 122 (nI l) v b3 b4 (nI u) (nI r) (nI x) (nI k) (nI c) (nI j) (lay M) = _
    unfold bX11_look_65 fX11_look_145 cA
    rw [if_pos (show (6 : Int32) ≤ nI j from nI_le (a := 6) (by omega) (by omega)), nI_1]
    have e : (if hasB v k then max x c else x) = max x c := by
      by_cases z : hasB v k
      · rw [if_pos z]
      · rw [if_neg z]
        rcases hc with q | q
        · exact absurd q z
        · omega
    rw [e]
    by_cases z : c ≤ x
    · rw [if_pos (nI_le z (by omega)), Nat.max_eq_left z]
    · rw [if_neg (nI_ge (by omega) (by omega)), Nat.max_eq_right (by omega)]
  | m + 1, j, F + 1, c, hj, hF, hc, hcj => by
    show bX11_look_65 k30 k39 k52 (fX11_look_65 k30 k39 k52 F) 122 (nI l) v b3 b4 (nI u) (nI r) (nI x) (nI k) (nI c) (nI j) (lay M) = _
    have IH := fun c => r_look_65 hk hlead k30 k39 k52 b3 b4 hx m (j + 1) F c (by omega) (by omega)
    unfold bX11_look_65 fX11_look_121 fX11_look_122 cA
    rw [if_neg (show ¬ (6 : Int32) ≤ nI j from nI_ge (b := 6) (by omega) (by omega)), f11_has, gx_bd_some, nI_1, nI_1, Int32.add_zero]
    by_cases c1 : hasB v k
    · rw [b2_t c1, if_neg (by decide), f11_has, gx_bd_some]
      by_cases c2 : hasB v j
      · rw [b2_t c2, if_neg (by decide), hlead k hk, gx_bd_some, hlead j (by omega), gx_bd_some]
        by_cases c3 : LL u r k = LL u r j
        · rw [if_pos c3, if_pos (show hasB v j ∧ LL u r j = LL u r k from ⟨c2, c3.symm⟩)]
          exact IH (c + 1) (Or.inl c1) (by omega)
        · rw [if_neg c3, if_neg (show ¬ (hasB v j ∧ LL u r j = LL u r k) from fun z => c3 z.2.symm)]
          exact IH c (Or.inl c1) (by omega)
      · rw [b2_f c2, if_pos rfl, if_neg (show ¬ (hasB v j ∧ LL u r j = LL u r k) from fun z => c2 z.1)]
        exact IH c (Or.inl c1) (by omega)
    · rw [b2_f c1, if_pos rfl, IH c (by rcases hc with q | q; exact absurd q c1; exact Or.inr q) (by omega), if_neg c1, if_neg c1]
theorem r_look_52 {u r : Nat} (hlead : ∀ k, k < 6 → fX11_leads 122 (nI k) (nI l) (nI u) (nI r) (lay M) = some (LL u r k, lay M)) {B : Option (Nat × Nat)} (hB : okB B) (k30 : Nat → Int32 → Int32 → Int32 → Int32 → Int32 → gx_H → Option (Int32 × gx_H)) (k39 : Nat → Int32 → Int32 → Int32 → Int32 → Int32 → Int32 → gx_H → Option (Int32 × gx_H)) : ∀ (m k F x : Nat), k + m = 6 → m < F → x ≤ 6 → mA v (LL u r) m k x = XX v LL u r → fX11_look_52 k30 k39 F 122 (nI l) v (rb B).1 (rb B).2 (nI u) (nI r) (nI x) (nI k) (lay M) = k39 122 (nI l) v (rb (nb B (10 * u + r) (XX v LL u r))).1 (rb (nb B (10 * u + r) (XX v LL u r))).2 (nI u) (nI (r + 1)) (lay M)
  | m, k, 0, x, _, hF, _, _ => by omega
  | 0, k, F + 1, x, hk, _, hx, hm => by
    show bX11_look_52 k30 k39 (fX11_look_52 k30 k39 F) 122 (nI l) v (rb B).1 (rb B).2 (nI u) (nI r) (nI x) (nI k) (lay M) = _
    unfold bX11_look_52 fX11_look_172 fX11_look_187
    have hm' : x = XX v LL u r := hm
    subst hm'
    rw [if_pos (show (6 : Int32) ≤ nI k from nI_le (a := 6) (by omega) (by omega)), rb_nb hB (XX_le v LL u r), i10, nI_1]
    by_cases z : (rb B).2 ≤ nI (XX v LL u r)
    · rw [if_pos z, if_pos z, if_pos z]
    · rw [if_neg z, if_neg z, if_neg z]
  | m + 1, k, F + 1, x, hk, hF, hx, hm => by
    show bX11_look_52 k30 k39 (fX11_look_52 k30 k39 F) 122 (nI l) v (rb B).1 (rb B).2 (nI u) (nI r) (nI x) (nI k) (lay M) = _
    unfold bX11_look_52
    have e : fX11_look_65 k30 k39 (fX11_look_52 k30 k39 F) gx_N 122 (nI l) v (rb B).1 (rb B).2 (nI u) (nI r) (nI x) (nI k) 0 0 (lay M) = _ := r_look_65 (k := k) (v := v) (by omega) hlead k30 k39 (fX11_look_52 k30 k39 F) (rb B).1 (rb B).2 hx 6 0 gx_N 0 (by omega) (by unfold gx_N; omega) (Or.inr rfl) (by omega)
    rw [if_neg (show ¬ (6 : Int32) ≤ nI k from nI_ge (b := 6) (by omega) (by omega)), e]
    refine r_look_52 hlead hB k30 k39 m (k + 1) F _ (by omega) (by omega) ?_ hm
    have := cA_le v (LL u r) k 6 0 0
    split <;> omega
theorem r_look_39 {u : Nat} (hlead : ∀ r, 1 ≤ r → r ≤ 6 → ∀ k, k < 6 → fX11_leads 122 (nI k) (nI l) (nI u) (nI r) (lay M) = some (LL u r k, lay M)) (k30 : Nat → Int32 → Int32 → Int32 → Int32 → Int32 → gx_H → Option (Int32 × gx_H)) : ∀ (m r F : Nat) (B : Option (Nat × Nat)), r + m = 7 → 1 ≤ r → m < F → okB B → fX11_look_39 k30 F 122 (nI l) v (rb B).1 (rb B).2 (nI u) (nI r) (lay M) = k30 122 (nI l) v (rb (fR (XX v LL) 10 u m r B)).1 (rb (fR (XX v LL) 10 u m r B)).2 (nI (u + 1)) (lay M)
  | m, r, 0, B, _, _, hF, _ => by omega
  | 0, r, F + 1, B, hr, _, _, hB => by
    show bX11_look_39 k30 (fX11_look_39 k30 F) 122 (nI l) v (rb B).1 (rb B).2 (nI u) (nI r) (lay M) = _
    unfold bX11_look_39
    rw [if_pos (show (6 : Int32) < nI r from nI_lt (a := 6) (by omega) (by omega)), nI_1]
    rfl
  | m + 1, r, F + 1, B, hr, h1, hF, hB => by
    show bX11_look_39 k30 (fX11_look_39 k30 F) 122 (nI l) v (rb B).1 (rb B).2 (nI u) (nI r) (lay M) = _
    unfold bX11_look_39
    rw [if_neg (show ¬ (6 : Int32) < nI r from by rw [t_lt, nI_toInt (by omega)]; show ¬ (6 : Int) < r; omega)]
    have e : fX11_look_52 k30 (fX11_look_39 k30 F) gx_N 122 (nI l) v (rb B).1 (rb B).2 (nI u) (nI r) 0 0 (lay M) = _ := r_look_52 (v := v) (hlead r h1 (by omega)) hB k30 (fX11_look_39 k30 F) 6 0 gx_N 0 (by omega) (by unfold gx_N; omega) (by omega) rfl
    rw [e]
    exact r_look_39 hlead k30 m (r + 1) F _ (by omega) (by omega) (by omega) (okB_nb hB (XX_le v LL u r))
theorem r_look_30 (hv : ¬ v = 0) (hlead : ∀ u, u < 4 → ∀ r, 1 ≤ r → r ≤ 6 → ∀ k, k < 6 → fX11_leads 122 (nI k) (nI l) (nI u) (nI r) (lay M) = some (LL u r k, lay M)) : ∀ (m u F : Nat) (B : Option (Nat × Nat)), u + m = 4 → m < F → okB B → fX11_look_30 F 122 (nI l) v (rb B).1 (rb B).2 (nI u) (lay M) = some ((rb (fU (XX v LL) 10 m u B)).1, lay M)
  | m, u, 0, B, _, hF, _ => by omega
  | 0, u, F + 1, B, hu, _, hB => by
    show bX11_look_30 (fX11_look_30 F) 122 (nI l) v (rb B).1 (rb B).2 (nI u) (lay M) = _
    unfold bX11_look_30
    rw [if_pos (show (3 : Int32) < nI u from nI_lt (a := 3) (by omega) (by omega)), if_neg hv]
    rfl
  | m + 1, u, F + 1, B, hu, hF, hB => by
    show bX11_look_30 (fX11_look_30 F) 122 (nI l) v (rb B).1 (rb B).2 (nI u) (lay M) = _
    unfold bX11_look_30
    rw [if_neg (show ¬ (3 : Int32) < nI u from by rw [t_lt, nI_toInt (by omega)]; show ¬ (3 : Int) < u; omega)]
    have e : fX11_look_39 (fX11_look_30 F) gx_N 122 (nI l) v (rb B).1 (rb B).2 (nI u) 1 (lay M) = _ := r_look_39 (v := v) (hlead u (by omega)) (fX11_look_30 F) 6 1 gx_N B (by omega) (by omega) (by unfold gx_N; omega) hB
    rw [e]
    exact r_look_30 hv hlead m (u + 1) F _ (by omega) (by omega) (okB_fR (fun r => XX_le v LL u r) 6 1 B hB)
end RL
theorem cb_rb (B : Option (Nat × Nat)) : (cb B).1 = (rb B).1 := by cases B <;> rfl
