/-! look: both sides are one search -/
def cb : Option (Nat × Nat) → Int32 × Int32
  | none => (-1, 7)
  | some p => (nI p.1, nI p.2)
def rb : Option (Nat × Nat) → Int32 × Int32
  | none => (-1, 1000000)
  | some p => (nI p.1, nI p.2)
def okB (B : Option (Nat × Nat)) : Prop := ∀ p, B = some p → p.2 ≤ 6
def nb (B : Option (Nat × Nat)) (c x : Nat) : Option (Nat × Nat) := match B with
  | none => some (c, x)
  | some p => if p.2 ≤ x then some p else some (c, x)
theorem okB_nb {B : Option (Nat × Nat)} {c x : Nat} (h : okB B) (hx : x ≤ 6) : okB (nb B c x) := by
  intro p hp
  unfold nb at hp
  cases B with
  | none => cases hp; exact hx
  | some p0 =>
    dsimp only at hp
    split at hp
    · cases hp; exact h p rfl
    · cases hp; exact hx
theorem cb_nb {B : Option (Nat × Nat)} {c x : Nat} (h : okB B) (hx : x ≤ 6) : cb (nb B c x) = if (cb B).2 ≤ nI x then cb B else (nI c, nI x) := by
  cases B with
  | none => rw [if_neg (show ¬ (cb none).2 ≤ nI x from nI_ge (b := 7) (by omega) (by omega))]; rfl
  | some p =>
    have := h p rfl
    show cb (if p.2 ≤ x then some p else some (c, x)) = if nI p.2 ≤ nI x then cb (some p) else (nI c, nI x)
    by_cases z : p.2 ≤ x
    · rw [if_pos z, if_pos (nI_le z (by omega))]
    · rw [if_neg z, if_neg (nI_ge (by omega) (by omega))]; rfl
theorem rb_nb {B : Option (Nat × Nat)} {c x : Nat} (h : okB B) (hx : x ≤ 6) : rb (nb B c x) = if (rb B).2 ≤ nI x then rb B else (nI c, nI x) := by
  cases B with
  | none => rw [if_neg (show ¬ (rb none).2 ≤ nI x from nI_ge (b := 1000000) (by omega) (by omega))]; rfl
  | some p =>
    have := h p rfl
    show rb (if p.2 ≤ x then some p else some (c, x)) = if nI p.2 ≤ nI x then rb (some p) else (nI c, nI x)
    by_cases z : p.2 ≤ x
    · rw [if_pos z, if_pos (nI_le z (by omega))]
    · rw [if_neg z, if_neg (nI_ge (by omega) (by omega))]; rfl
def fR (X : Nat → Nat → Nat) (w u : Nat) : Nat → Nat → Option (Nat × Nat) → Option (Nat × Nat)
  | 0, _, B => B
  | m + 1, r, B => fR X w u m (r + 1) (nb B (w * u + r) (X u r))
def fU (X : Nat → Nat → Nat) (w : Nat) : Nat → Nat → Option (Nat × Nat) → Option (Nat × Nat)
  | 0, _, B => B
  | m + 1, u, B => fU X w m (u + 1) (fR X w u 6 1 B)
theorem okB_fR {X : Nat → Nat → Nat} {w u : Nat} (hX : ∀ r, X u r ≤ 6) : ∀ (m r : Nat) (B : Option (Nat × Nat)), okB B → okB (fR X w u m r B)
  | 0, _, B, h => h
  | m + 1, r, B, h => okB_fR hX m (r + 1) _ (okB_nb h (hX r))
section CL
variable {M : mm} {l : Nat} {v : Int32} {LL : Nat → Nat → Nat → Int32}
def XX (v : Int32) (LL : Nat → Nat → Nat → Int32) (u r : Nat) : Nat := mA v (LL u r) 6 0 0
theorem XX_le (v : Int32) (LL : Nat → Nat → Nat → Int32) (u r : Nat) : XX v LL u r ≤ 6 := mA_le _ _ _ _ _ (by omega)
theorem i10 (u r : Nat) : (10 : Int32) * nI u + nI r = nI (10 * u + r) := by rw [show (10 : Int32) = nI 10 from rfl, pk_mul, nI_add]
theorem c_look_43 {u r : Nat} (hlead : ∀ M', fr (fun a => a = 121) M M' → ∀ k, k < 6 → fX2_lead 2 (nI l) (nI k) (nI u) (nI r) (lay M') = some (LL u r k, lay M')) {B : Option (Nat × Nat)} (hB : okB B) (k19 : Nat → Nat → Int32 → Int32 → Int32 → Int32 → Int32 → gx_H → Option (Int32 × gx_H)) (k33 : Nat → Nat → Int32 → Int32 → Int32 → Int32 → Int32 → Int32 → gx_H → Option (Int32 × gx_H)) : ∀ (m k F : Nat) (M' : mm), k + m = 6 → m < F → fr (fun a => a = 121) M M' → (∀ i, i < k → M'.1 121 i = LL u r i) → ∃ M'', fX2_bestLook_43 k19 k33 F 120 2 (nI l) v (cb B).1 (cb B).2 (nI u) (nI r) (nI k) (lay M') = k33 120 2 (nI l) v (cb (nb B (10 * u + r) (XX v LL u r))).1 (cb (nb B (10 * u + r) (XX v LL u r))).2 (nI u) (nI (r + 1)) (lay M'') ∧ fr (fun a => a = 121) M M''
  | m, k, 0, M', _, hF, _, _ => by omega
  | 0, k, F + 1, M', hk, _, hf, hL => by
    show ∃ M'', bX2_bestLook_43 k19 k33 (fX2_bestLook_43 k19 k33 F) 120 2 (nI l) v (cb B).1 (cb B).2 (nI u) (nI r) (nI k) (lay M') = _ ∧ _
    unfold bX2_bestLook_43 fX2_bestLook_103
    have e : mA v (M'.1 121) 6 0 0 = XX v LL u r := mA_eq (fun i hi => hL i (by omega)) 6 0 0 (by omega)
    rw [if_pos (show (6 : Int32) ≤ nI k from nI_le (a := 6) (by omega) (by omega)), c_most, gx_bd_some, e, cb_nb hB (XX_le v LL u r), i10, nI_1]
    refine ⟨M', ?_, hf⟩
    by_cases z : (cb B).2 ≤ nI (XX v LL u r)
    · rw [if_pos z, if_pos z]
    · rw [if_neg z, if_neg z]
  | m + 1, k, F + 1, M', hk, hF, hf, hL => by
    show ∃ M'', bX2_bestLook_43 k19 k33 (fX2_bestLook_43 k19 k33 F) 120 2 (nI l) v (cb B).1 (cb B).2 (nI u) (nI r) (nI k) (lay M') = _ ∧ _
    unfold bX2_bestLook_43
    rw [if_neg (show ¬ (6 : Int32) ≤ nI k from nI_ge (b := 6) (by omega) (by omega)), r_120_0, Option.bind_some, hlead M' hf k (by omega), gx_bd_some, sI_lay 6 (show isA 121 0 6 = true by decide) (by decide) (show k < 6 by omega) (by decide), Option.bind_some, nI_1]
    refine c_look_43 hlead hB k19 k33 m (k + 1) F _ (by omega) (by omega) (hf.put rfl) (fun i hi => ?_)
    by_cases q : i = k
    · subst q; rw [sI_s]
    · rw [sI_n q]; exact hL i (by omega)
theorem c_look_33 {u : Nat} (hlead : ∀ r, 1 ≤ r → r ≤ 6 → ∀ M', fr (fun a => a = 121) M M' → ∀ k, k < 6 → fX2_lead 2 (nI l) (nI k) (nI u) (nI r) (lay M') = some (LL u r k, lay M')) (k19 : Nat → Nat → Int32 → Int32 → Int32 → Int32 → Int32 → gx_H → Option (Int32 × gx_H)) : ∀ (m r F : Nat) (B : Option (Nat × Nat)) (M' : mm), r + m = 7 → 1 ≤ r → m < F → okB B → fr (fun a => a = 121) M M' → ∃ M'', fX2_bestLook_33 k19 F 120 2 (nI l) v (cb B).1 (cb B).2 (nI u) (nI r) (lay M') = k19 120 2 (nI l) v (cb (fR (XX v LL) 10 u m r B)).1 (cb (fR (XX v LL) 10 u m r B)).2 (nI (u + 1)) (lay M'') ∧ fr (fun a => a = 121) M M''
  | m, r, 0, B, M', _, _, hF, _, _ => by omega
  | 0, r, F + 1, B, M', hr, _, _, hB, hf => by
    show ∃ M'', bX2_bestLook_33 k19 (fX2_bestLook_33 k19 F) 120 2 (nI l) v (cb B).1 (cb B).2 (nI u) (nI r) (lay M') = _ ∧ _
    unfold bX2_bestLook_33
    rw [if_pos (show (6 : Int32) < nI r from nI_lt (a := 6) (by omega) (by omega)), nI_1]
    exact ⟨M', rfl, hf⟩
  | m + 1, r, F + 1, B, M', hr, h1, hF, hB, hf => by
    show ∃ M'', bX2_bestLook_33 k19 (fX2_bestLook_33 k19 F) 120 2 (nI l) v (cb B).1 (cb B).2 (nI u) (nI r) (lay M') = _ ∧ _
    unfold bX2_bestLook_33
    rw [if_neg (show ¬ (6 : Int32) < nI r from by rw [t_lt, nI_toInt (by omega)]; show ¬ (6 : Int) < r; omega)]
    obtain ⟨M1, e1, f1⟩ := c_look_43 (v := v) (hlead r h1 (by omega)) hB k19 (fX2_bestLook_33 k19 F) 6 0 gx_N M' (by omega) (by unfold gx_N; omega) hf (fun i hi => by omega)
    obtain ⟨M2, e2, f2⟩ := c_look_33 hlead k19 m (r + 1) F (nb B (10 * u + r) (XX v LL u r)) M1 (by omega) (by omega) (by omega) (okB_nb hB (XX_le v LL u r)) f1
    exact ⟨M2, Eq.trans e1 e2, f2⟩
theorem c_look_19 (hv : ¬ v = 0) (hlead : ∀ u, u < 4 → ∀ r, 1 ≤ r → r ≤ 6 → ∀ M', fr (fun a => a = 121) M M' → ∀ k, k < 6 → fX2_lead 2 (nI l) (nI k) (nI u) (nI r) (lay M') = some (LL u r k, lay M')) : ∀ (m u F : Nat) (B : Option (Nat × Nat)) (M' : mm), u + m = 4 → m < F → okB B → fr (fun a => a = 121) M M' → ∃ M'', fX2_bestLook_19 F 120 2 (nI l) v (cb B).1 (cb B).2 (nI u) (lay M') = some ((cb (fU (XX v LL) 10 m u B)).1, lay M'') ∧ fr (fun a => a = 121) M M''
  | m, u, 0, B, M', _, hF, _, _ => by omega
  | 0, u, F + 1, B, M', hu, _, hB, hf => by
    show ∃ M'', bX2_bestLook_19 (fX2_bestLook_19 F) 120 2 (nI l) v (cb B).1 (cb B).2 (nI u) (lay M') = _ ∧ _
    unfold bX2_bestLook_19
    rw [if_pos (show (3 : Int32) < nI u from nI_lt (a := 3) (by omega) (by omega))]
    exact ⟨M', rfl, hf⟩
  | m + 1, u, F + 1, B, M', hu, hF, hB, hf => by
    show ∃ M'', bX2_bestLook_19 (fX2_bestLook_19 F) 120 2 (nI l) v (cb B).1 (cb B).2 (nI u) (lay M') = _ ∧ _
    unfold bX2_bestLook_19
    rw [if_neg (show ¬ (3 : Int32) < nI u from by rw [t_lt, nI_toInt (by omega)]; show ¬ (3 : Int) < u; omega), if_neg hv]
    obtain ⟨M1, e1, f1⟩ := c_look_33 (v := v) (hlead u (by omega)) (fX2_bestLook_19 F) 6 1 gx_N B M' (by omega) (by omega) (by unfold gx_N; omega) hB hf
    obtain ⟨M2, e2, f2⟩ := c_look_19 hv hlead m (u + 1) F (fR (XX v LL) 10 u 6 1 B) M1 (by omega) (by omega) (okB_fR (fun r => XX_le v LL u r) 6 1 B hB) f1
    exact ⟨M2, Eq.trans e1 e2, f2⟩
end CL
section RL
variable {M : mm} {l : Nat} {v : Int32} {LL : Nat → Nat → Nat → Int32}
theorem r_look_65 {u r k : Nat} (hk : k < 6) (hlead : ∀ k, k < 6 → fX11_leads 122 (nI k) (nI l) (nI u) (nI r) (lay M) = some (LL u r k, lay M)) (k30 : Nat → Int32 → Int32 → Int32 → Int32 → Int32 → gx_H → Option (Int32 × gx_H)) (k39 : Nat → Int32 → Int32 → Int32 → Int32 → Int32 → Int32 → gx_H → Option (Int32 × gx_H)) (k52 : Nat → Int32 → Int32 → Int32 → Int32 → Int32 → Int32 → Int32 → Int32 → gx_H → Option (Int32 × gx_H)) (b3 b4 : Int32) {x : Nat} (hx : x ≤ 6) : ∀ (m j F c : Nat), j + m = 6 → m < F → (hasB v k ∨ c = 0) → c ≤ j → fX11_look_65 k30 k39 k52 F 122 (nI l) v b3 b4 (nI u) (nI r) (nI x) (nI k) (nI c) (nI j) (lay M) = k52 122 (nI l) v b3 b4 (nI u) (nI r) (nI (if hasB v k then max x (cA v (LL u r) k m j c) else x)) (nI (k + 1)) (lay M)
  | m, j, 0, c, _, hF, _, _ => by omega
  | 0, j, F + 1, c, hj, _, hc, hcj => by
    show bX11_look_65 k30 k39 k52 (fX11_look_65 k30 k39 k52 F) 122 (nI l) v b3 b4 (nI u) (nI r) (nI x) (nI k) (nI c) (nI j) (lay M) = _
    unfold bX11_look_65 fX11_look_145 cA
    rw [if_pos (show (6 : Int32) ≤ nI j from nI_le (a := 6) (by omega) (by omega)), nI_1]
    have e : (if hasB v k then max x c else x) = max x c := by
      by_cases z : hasB v k
      · rw [if_pos z]
      · rw [if_neg z]
        rcases hc with q | q
        · exact absurd q z
        · omega
    rw [e]
    by_cases z : c ≤ x
    · rw [if_pos (nI_le z (by omega)), Nat.max_eq_left z]
    · rw [if_neg (nI_ge (by omega) (by omega)), Nat.max_eq_right (by omega)]
  | m + 1, j, F + 1, c, hj, hF, hc, hcj => by
    show bX11_look_65 k30 k39 k52 (fX11_look_65 k30 k39 k52 F) 122 (nI l) v b3 b4 (nI u) (nI r) (nI x) (nI k) (nI c) (nI j) (lay M) = _
    have IH := fun c => r_look_65 hk hlead k30 k39 k52 b3 b4 hx m (j + 1) F c (by omega) (by omega)
    unfold bX11_look_65 fX11_look_121 fX11_look_122 cA
    rw [if_neg (show ¬ (6 : Int32) ≤ nI j from nI_ge (b := 6) (by omega) (by omega)), f11_has, gx_bd_some, nI_1, nI_1, Int32.add_zero]
    by_cases c1 : hasB v k
    · rw [b2_t c1, if_neg (by decide), f11_has, gx_bd_some]
      by_cases c2 : hasB v j
      · rw [b2_t c2, if_neg (by decide), hlead k hk, gx_bd_some, hlead j (by omega), gx_bd_some]
        by_cases c3 : LL u r k = LL u r j
        · rw [if_pos c3, if_pos (show hasB v j ∧ LL u r j = LL u r k from ⟨c2, c3.symm⟩)]
          exact IH (c + 1) (Or.inl c1) (by omega)
        · rw [if_neg c3, if_neg (show ¬ (hasB v j ∧ LL u r j = LL u r k) from fun z => c3 z.2.symm)]
          exact IH c (Or.inl c1) (by omega)
      · rw [b2_f c2, if_pos rfl, if_neg (show ¬ (hasB v j ∧ LL u r j = LL u r k) from fun z => c2 z.1)]
        exact IH c (Or.inl c1) (by omega)
    · rw [b2_f c1, if_pos rfl, IH c (by rcases hc with q | q; exact absurd q c1; exact Or.inr q) (by omega), if_neg c1, if_neg c1]
theorem r_look_52 {u r : Nat} (hlead : ∀ k, k < 6 → fX11_leads 122 (nI k) (nI l) (nI u) (nI r) (lay M) = some (LL u r k, lay M)) {B : Option (Nat × Nat)} (hB : okB B) (k30 : Nat → Int32 → Int32 → Int32 → Int32 → Int32 → gx_H → Option (Int32 × gx_H)) (k39 : Nat → Int32 → Int32 → Int32 → Int32 → Int32 → Int32 → gx_H → Option (Int32 × gx_H)) : ∀ (m k F x : Nat), k + m = 6 → m < F → x ≤ 6 → mA v (LL u r) m k x = XX v LL u r → fX11_look_52 k30 k39 F 122 (nI l) v (rb B).1 (rb B).2 (nI u) (nI r) (nI x) (nI k) (lay M) = k39 122 (nI l) v (rb (nb B (10 * u + r) (XX v LL u r))).1 (rb (nb B (10 * u + r) (XX v LL u r))).2 (nI u) (nI (r + 1)) (lay M)
  | m, k, 0, x, _, hF, _, _ => by omega
  | 0, k, F + 1, x, hk, _, hx, hm => by
    show bX11_look_52 k30 k39 (fX11_look_52 k30 k39 F) 122 (nI l) v (rb B).1 (rb B).2 (nI u) (nI r) (nI x) (nI k) (lay M) = _
    unfold bX11_look_52 fX11_look_172 fX11_look_187
    have hm' : x = XX v LL u r := hm
    subst hm'
    rw [if_pos (show (6 : Int32) ≤ nI k from nI_le (a := 6) (by omega) (by omega)), rb_nb hB (XX_le v LL u r), i10, nI_1]
    by_cases z : (rb B).2 ≤ nI (XX v LL u r)
    · rw [if_pos z, if_pos z, if_pos z]
    · rw [if_neg z, if_neg z, if_neg z]
  | m + 1, k, F + 1, x, hk, hF, hx, hm => by
    show bX11_look_52 k30 k39 (fX11_look_52 k30 k39 F) 122 (nI l) v (rb B).1 (rb B).2 (nI u) (nI r) (nI x) (nI k) (lay M) = _
    unfold bX11_look_52
    have e : fX11_look_65 k30 k39 (fX11_look_52 k30 k39 F) gx_N 122 (nI l) v (rb B).1 (rb B).2 (nI u) (nI r) (nI x) (nI k) 0 0 (lay M) = _ := r_look_65 (k := k) (v := v) (by omega) hlead k30 k39 (fX11_look_52 k30 k39 F) (rb B).1 (rb B).2 hx 6 0 gx_N 0 (by omega) (by unfold gx_N; omega) (Or.inr rfl) (by omega)
    rw [if_neg (show ¬ (6 : Int32) ≤ nI k from nI_ge (b := 6) (by omega) (by omega)), e]
    refine r_look_52 hlead hB k30 k39 m (k + 1) F _ (by omega) (by omega) ?_ hm
    have := cA_le v (LL u r) k 6 0 0
    split <;> omega
theorem r_look_39 {u : Nat} (hlead : ∀ r, 1 ≤ r → r ≤ 6 → ∀ k, k < 6 → fX11_leads 122 (nI k) (nI l) (nI u) (nI r) (lay M) = some (LL u r k, lay M)) (k30 : Nat → Int32 → Int32 → Int32 → Int32 → Int32 → gx_H → Option (Int32 × gx_H)) : ∀ (m r F : Nat) (B : Option (Nat × Nat)), r + m = 7 → 1 ≤ r → m < F → okB B → fX11_look_39 k30 F 122 (nI l) v (rb B).1 (rb B).2 (nI u) (nI r) (lay M) = k30 122 (nI l) v (rb (fR (XX v LL) 10 u m r B)).1 (rb (fR (XX v LL) 10 u m r B)).2 (nI (u + 1)) (lay M)
  | m, r, 0, B, _, _, hF, _ => by omega
  | 0, r, F + 1, B, hr, _, _, hB => by
    show bX11_look_39 k30 (fX11_look_39 k30 F) 122 (nI l) v (rb B).1 (rb B).2 (nI u) (nI r) (lay M) = _
    unfold bX11_look_39
    rw [if_pos (show (6 : Int32) < nI r from nI_lt (a := 6) (by omega) (by omega)), nI_1]
    rfl
  | m + 1, r, F + 1, B, hr, h1, hF, hB => by
    show bX11_look_39 k30 (fX11_look_39 k30 F) 122 (nI l) v (rb B).1 (rb B).2 (nI u) (nI r) (lay M) = _
    unfold bX11_look_39
    rw [if_neg (show ¬ (6 : Int32) < nI r from by rw [t_lt, nI_toInt (by omega)]; show ¬ (6 : Int) < r; omega)]
    have e : fX11_look_52 k30 (fX11_look_39 k30 F) gx_N 122 (nI l) v (rb B).1 (rb B).2 (nI u) (nI r) 0 0 (lay M) = _ := r_look_52 (v := v) (hlead r h1 (by omega)) hB k30 (fX11_look_39 k30 F) 6 0 gx_N 0 (by omega) (by unfold gx_N; omega) (by omega) rfl
    rw [e]
    exact r_look_39 hlead k30 m (r + 1) F _ (by omega) (by omega) (by omega) (okB_nb hB (XX_le v LL u r))
theorem r_look_30 (hlead : ∀ u, u < 4 → ∀ r, 1 ≤ r → r ≤ 6 → ∀ k, k < 6 → fX11_leads 122 (nI k) (nI l) (nI u) (nI r) (lay M) = some (LL u r k, lay M)) : ∀ (m u F : Nat) (B : Option (Nat × Nat)), u + m = 4 → m < F → okB B → fX11_look_30 F 122 (nI l) v (rb B).1 (rb B).2 (nI u) (lay M) = some (if v = 0 then -1 else (rb (fU (XX v LL) 10 m u B)).1, lay M)
  | m, u, 0, B, _, hF, _ => by omega
  | 0, u, F + 1, B, hu, _, hB => by
    show bX11_look_30 (fX11_look_30 F) 122 (nI l) v (rb B).1 (rb B).2 (nI u) (lay M) = _
    unfold bX11_look_30
    rw [if_pos (show (3 : Int32) < nI u from nI_lt (a := 3) (by omega) (by omega))]
    by_cases z : v = 0
    · rw [if_pos z, if_pos z]; rfl
    · rw [if_neg z, if_neg z]; rfl
  | m + 1, u, F + 1, B, hu, hF, hB => by
    show bX11_look_30 (fX11_look_30 F) 122 (nI l) v (rb B).1 (rb B).2 (nI u) (lay M) = _
    unfold bX11_look_30
    rw [if_neg (show ¬ (3 : Int32) < nI u from by rw [t_lt, nI_toInt (by omega)]; show ¬ (3 : Int) < u; omega)]
    have e : fX11_look_39 (fX11_look_30 F) gx_N 122 (nI l) v (rb B).1 (rb B).2 (nI u) 1 (lay M) = _ := r_look_39 (v := v) (hlead u (by omega)) (fX11_look_30 F) 6 1 gx_N B (by omega) (by omega) (by unfold gx_N; omega) hB
    rw [e]
    exact r_look_30 hlead m (u + 1) F _ (by omega) (by omega) (okB_fR (fun r => XX_le v LL u r) 6 1 B hB)
end RL
theorem cb_rb (B : Option (Nat × Nat)) : (cb B).1 = (rb B).1 := by cases B <;> rfl
theorem GM.eq {M M1 : mm} {n np hs : Nat} {q : Nat → Nat} (g : GM M n np hs q) (e : ∀ c, c ≤ 29 ∨ c = 123 → M1.1 c = M.1 c) (e2 : M1.2.2 11 = M.2.2 11) : GM M1 n np hs q := by
  obtain ⟨a1, a2, a3, a4, a5, a6, a7, a8, a9, a10⟩ := g
  have eV : VC M1.1 2 = VC M.1 2 := VC_eq (fun a h1 h2 => e a (by omega))
  have eW : VR M1.1 0 = VR M.1 0 := by unfold VR; rw [e 123 (by omega)]
  refine ⟨by rw [eV]; exact a1, by rw [eV, eW]; exact a2, ?_, ?_, a5, by rw [e 10 (by omega)]; exact a6, by rw [e 123 (by omega)]; exact a7, by rw [e2]; exact a8, a9, ?_⟩
  · rw [eW]; exact a3.eq (fun a h1 h2 => e _ (by omega)) (fun j _ _ => rfl)
  · rw [eW]; exact a4.eq (fun a h1 h2 => e _ (by omega)) (fun j _ _ => rfl)
  · rw [eV, eW]
    exact chain_eq a1.2.1 a1.2.2.2.1 hs _ a5 (fun j hj => (e _ (by have := a8 j (by omega); omega)).symm) (fun i _ => rfl) a10
theorem r_isOf_eq {M M1 : mm} {n np hs : Nat} {q : Nat → Nat} (g : GM M n np hs q) (e : ∀ c, c ≤ 29 ∨ c = 123 → M1.1 c = M.1 c) (e2 : M1.2.2 11 = M.2.2 11) {l : Nat} (hl : l < n) {v : Int32} (h : fX11_isOf 122 (nI l) (lay M) = some (v, lay M)) : fX11_isOf 122 (nI l) (lay M1) = some (v, lay M1) := by
  have g1 := g.eq e e2
  obtain ⟨m, m1, m2, m3, m4, m5⟩ := g.2.2.1
  simp only [VR0] at m3 m4
  unfold fX11_isOf at h ⊢
  rw [o_122, Option.bind_some] at h ⊢
  have x1 : fX11_isOf_5 gx_N 122 (nI l) 63 0 (lay M) = _ := r_isOf_l g m3 m1 m4 hl 6 0 gx_N 63 (by omega) (by unfold gx_N; omega)
  rw [x1] at h
  have hv : clF (fun k => allB (tN M l k) m 0) 6 0 63 = v := by injection h with h; exact congrArg Prod.fst h
  have x2 : fX11_isOf_5 gx_N 122 (nI l) 63 0 (lay M1) = _ := r_isOf_l g1 (by rw [e 123 (by omega)]; exact m3) m1 (fun e' he => by rw [e 21 (by omega), e 22 (by omega), e 23 (by omega), e 24 (by omega), e 123 (by omega)]; exact m4 e' he) hl 6 0 gx_N 63 (by omega) (by unfold gx_N; omega)
  rw [x2, ← hv]
  have t : ∀ k, tN M1 l k = tN M l k := fun k => by
    funext e'
    unfold tN
    rw [e 21 (by omega), e 22 (by omega), e 23 (by omega), e 24 (by omega), e 2 (by omega), e 4 (by omega), e 5 (by omega)]
  simp only [t]
theorem r_whatOf_eq {M M1 : mm} {n np hs : Nat} {q : Nat → Nat} (g : GM M n np hs q) (e : ∀ c, c ≤ 29 ∨ c = 123 → M1.1 c = M.1 c) (e2 : M1.2.2 11 = M.2.2 11) {l : Nat} {v : Int32} (h : fX11_whatOf 122 (nI l) (lay M) = some (v, lay M)) : fX11_whatOf 122 (nI l) (lay M1) = some (v, lay M1) := by
  have g1 := g.eq e e2
  obtain ⟨m, m1, m2, m3, m4, m5⟩ := g.2.2.2.1
  simp only [VR0] at m3 m4
  unfold fX11_whatOf at h ⊢
  rw [o_122, Option.bind_some] at h ⊢
  have x1 : fX11_whatOf_5 gx_N 122 (nI l) 63 0 (lay M) = _ := r_whatOf_l g m3 m1 m4 6 0 gx_N 63 (by omega) (by unfold gx_N; omega)
  rw [x1] at h
  have hv : clF (fun k => allB (tM M l k) m 0) 6 0 63 = v := by injection h with h; exact congrArg Prod.fst h
  have x2 : fX11_whatOf_5 gx_N 122 (nI l) 63 0 (lay M1) = _ := r_whatOf_l g1 (by rw [e 123 (by omega)]; exact m3) m1 (fun e' he => by rw [e 26 (by omega), e 27 (by omega), e 28 (by omega), e 29 (by omega), e 123 (by omega)]; exact m4 e' he) 6 0 gx_N 63 (by omega) (by unfold gx_N; omega)
  rw [x2, ← hv]
  have t : ∀ k, tM M1 l k = tM M l k := fun k => by
    funext e'
    unfold tM
    rw [e 26 (by omega), e 27 (by omega), e 28 (by omega), e 29 (by omega), e 2 (by omega)]
  simp only [t]
theorem op_look (a : Int32) : Op (fX10_look 0 a) (fX11_look 122 a) := by
  intro M h
  obtain ⟨n, np, hs, q, g⟩ := h.gm
  have h6 := g.n6
  unfold fX10_look fX11_look
  simp only [o_0, o_122, r_0_0, r_0_5, r_1_0, r_1_2, f10_isLink, f11_isLink, Option.bind_some, gx_bd_some, f10_bad, f11_bad']
  by_cases c1 : 0 ≤ a ∧ a ≤ M.1 2 2 - 1
  case neg =>
    rw [b2_f c1, if_pos rfl]
    refine ⟨_, badC M, badR (badC M), rfl, ?_, h.bad⟩
    rw [show (badC M).1 123 = M.1 123 from by unfold badC; rw [sI_o (by omega)], b2_f (fun z => c1 ((g.ln _).mp z)), if_pos rfl]
  rw [b2_t c1, if_neg (by decide)]
  obtain ⟨l, hl, rfl⟩ := g.isL c1
  obtain ⟨f, e1, e2⟩ := kindsL h g hl
  generalize clF f 6 0 63 = v at e1 e2
  have hc : ∀ u, u < 4 → ∀ r, 1 ≤ r → r ≤ 6 → ∀ M', fr (fun a => a = 121) M M' → ∀ k, k < 6 → fX2_lead 2 (nI l) (nI k) (nI u) (nI r) (lay M') = some ((fun u r k => lB (nI k) (M.1 2 0) (M.1 4 l) (M.1 5 l) (nI u) (nI r)) u r k, lay M') := by
    intro u _ r h1 hr M' hf k _
    have a5 : gx_aI 0 (lay M') 4 (nI l) = some (M.1 4 l) := by rw [← hf.2 4 (by omega)]; exact aI_lay 6 (by decide) (by decide) (by omega) (by decide)
    have a6 : gx_aI 0 (lay M') 5 (nI l) = some (M.1 5 l) := by rw [← hf.2 5 (by omega)]; exact aI_lay 6 (by decide) (by decide) (by omega) (by decide)
    unfold fX2_lead
    rw [br5 brd_2, Option.bind_some, a5, Option.bind_some, br6 brd_2, Option.bind_some, a6, Option.bind_some, bi0 brd_2, Option.bind_some, hf.2 2 (by omega), f4_square h1 hr (g.bL hl) g.L, gx_bd_some]
  -- the class
  have hC : ∃ M1, fX2_bestLook 120 2 20 (nI l) (lay M) = some (if v = 0 then -1 else (rb (fU (XX v (fun u r k => lB (nI k) (M.1 2 0) (M.1 4 l) (M.1 5 l) (nI u) (nI r))) 10 4 0 none)).1, lay M1) ∧ fr (fun a => a = 121) M M1 := by
    unfold fX2_bestLook
    rw [o_120, Option.bind_some, e1, gx_bd_some]
    by_cases hv : v = 0
    · rw [if_pos hv]
      refine ⟨M, ?_, fr.rf⟩
      rw [show gx_N = 19999 + 1 from rfl]
      show bX2_bestLook_19 (fX2_bestLook_19 19999) 120 2 (nI l) v (-1) 7 0 (lay M) = _
      unfold bX2_bestLook_19
      rw [if_neg (by decide), if_pos hv]
      rfl
    · rw [if_neg hv]
      obtain ⟨M1, x1, x2⟩ := c_look_19 (M := M) (l := l) hv hc 4 0 gx_N none M (by omega) (by unfold gx_N; omega) (fun p hp => by cases hp) fr.rf
      refine ⟨M1, ?_, x2⟩
      rw [← cb_rb]
      exact x1
  obtain ⟨M1, x1, x2⟩ := hC
  have k1 : kp M M1 := x2.kp (fun a z => by omega)
  have h1 := h.kp k1
  have eR : ∀ c, c ≠ 121 → M1.1 c = M.1 c := fun c hc => x2.2 c hc
  rw [x1, gx_bd_some]
  have ee : ∀ c, c ≤ 29 ∨ c = 123 → M1.1 c = M.1 c := fun c hc => eR c (by omega)
  have e22 : M1.2.2 11 = M.2.2 11 := by rw [x2.1]
  have g1 := g.eq ee e22
  refine ⟨_, M1, M1, rfl, ?_, h1⟩
  rw [b2_t ((g1.ln _).mpr (by rw [ee 2 (by omega)]; exact c1)), if_neg (by decide), r_isOf_eq g ee e22 hl e2, gx_bd_some]
  exact r_look_30 (M := M1) (l := l) (v := v) (LL := fun u r k => lB (nI k) (M.1 2 0) (M.1 4 l) (M.1 5 l) (nI u) (nI r)) (fun u _ r _ _ k _ => by rw [r_leads g1 hl, ee 2 (by omega), ee 4 (by omega), ee 5 (by omega)]) 4 0 gx_N none (by omega) (by unfold gx_N; omega) (fun p hp => by cases hp)
