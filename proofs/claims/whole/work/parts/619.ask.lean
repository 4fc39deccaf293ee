/-! ask: likewise -/
theorem i100 (u r : Nat) : (100 : Int32) * nI u + nI r = nI (100 * u + r) := by rw [show (100 : Int32) = nI 100 from rfl, pk_mul, nI_add]
section CK
variable {M : mm} {v : Int32} {LL : Nat → Nat → Nat → Int32}
theorem c_ask_46 {u r : Nat} (hlead : ∀ M', fr (fun a => a = 121) M M' → ∀ k, k < 6 → gB (nI k) (M'.1 2 0) (nI u) (nI r) = LL u r k) {B : Option (Nat × Nat)} (hB : okB B) (k19 : Nat → Nat → Int32 → Int32 → Int32 → Int32 → gx_H → Option (Int32 × gx_H)) (k36 : Nat → Nat → Int32 → Int32 → Int32 → Int32 → Int32 → gx_H → Option (Int32 × gx_H)) : ∀ (m k F : Nat) (M' : mm), k + m = 6 → m < F → fr (fun a => a = 121) M M' → (∀ i, i < k → M'.1 121 i = LL u r i) → ∃ M'', fX2_bestAsk_46 k19 k36 F 120 2 v (cb B).1 (cb B).2 (nI u) (nI r) (nI k) (lay M') = k36 120 2 v (cb (nb B (100 * u + r) (XX v LL u r))).1 (cb (nb B (100 * u + r) (XX v LL u r))).2 (nI u) (nI (r + 1)) (lay M'') ∧ fr (fun a => a = 121) M M''
  | m, k, 0, M', _, hF, _, _ => by omega
  | 0, k, F + 1, M', hk, _, hf, hL => by
    show ∃ M'', bX2_bestAsk_46 k19 k36 (fX2_bestAsk_46 k19 k36 F) 120 2 v (cb B).1 (cb B).2 (nI u) (nI r) (nI k) (lay M') = _ ∧ _
    unfold bX2_bestAsk_46 fX2_bestAsk_108
    have e : mA v (M'.1 121) 6 0 0 = XX v LL u r := mA_eq (fun i hi => hL i (by omega)) 6 0 0 (by omega)
    rw [if_pos (show (6 : Int32) ≤ nI k from nI_le (a := 6) (by omega) (by omega)), c_most, gx_bd_some, e, cb_nb hB (XX_le v LL u r), i100, nI_1]
    refine ⟨M', ?_, hf⟩
    by_cases z : (cb B).2 ≤ nI (XX v LL u r)
    · rw [if_pos z, if_pos z]
    · rw [if_neg z, if_neg z]
  | m + 1, k, F + 1, M', hk, hF, hf, hL => by
    show ∃ M'', bX2_bestAsk_46 k19 k36 (fX2_bestAsk_46 k19 k36 F) 120 2 v (cb B).1 (cb B).2 (nI u) (nI r) (nI k) (lay M') = _ ∧ _
    unfold bX2_bestAsk_46
    rw [if_neg (show ¬ (6 : Int32) ≤ nI k from nI_ge (b := 6) (by omega) (by omega)), r_120_0, Option.bind_some, bi0 brd_2, Option.bind_some, f6_square, gx_bd_some, hlead M' hf k (by omega), sI_lay 6 (show isA 121 0 6 = true by decide) (by decide) (show k < 6 by omega) (by decide), Option.bind_some, nI_1]
    refine c_ask_46 hlead hB k19 k36 m (k + 1) F _ (by omega) (by omega) (hf.put rfl) (fun i hi => ?_)
    by_cases q : i = k
    · subst q; rw [sI_s]
    · rw [sI_n q]; exact hL i (by omega)
theorem c_ask_36 {u : Nat} (hlead : ∀ r, 1 ≤ r → r ≤ 6 → ∀ M', fr (fun a => a = 121) M M' → ∀ k, k < 6 → gB (nI k) (M'.1 2 0) (nI u) (nI r) = LL u r k) (k19 : Nat → Nat → Int32 → Int32 → Int32 → Int32 → gx_H → Option (Int32 × gx_H)) : ∀ (m r F : Nat) (B : Option (Nat × Nat)) (M' : mm), r + m = 7 → 1 ≤ r → m < F → okB B → fr (fun a => a = 121) M M' → ∃ M'', fX2_bestAsk_36 k19 F 120 2 v (cb B).1 (cb B).2 (nI u) (nI r) (lay M') = k19 120 2 v (cb (fR (XX v LL) 100 u m r B)).1 (cb (fR (XX v LL) 100 u m r B)).2 (nI (u + 1)) (lay M'') ∧ fr (fun a => a = 121) M M''
  | m, r, 0, B, M', _, _, hF, _, _ => by omega
  | 0, r, F + 1, B, M', hr, _, _, hB, hf => by
    show ∃ M'', bX2_bestAsk_36 k19 (fX2_bestAsk_36 k19 F) 120 2 v (cb B).1 (cb B).2 (nI u) (nI r) (lay M') = _ ∧ _
    unfold bX2_bestAsk_36
    rw [if_pos (show (6 : Int32) < nI r from nI_lt (a := 6) (by omega) (by omega)), nI_1]
    exact ⟨M', rfl, hf⟩
  | m + 1, r, F + 1, B, M', hr, h1, hF, hB, hf => by
    show ∃ M'', bX2_bestAsk_36 k19 (fX2_bestAsk_36 k19 F) 120 2 v (cb B).1 (cb B).2 (nI u) (nI r) (lay M') = _ ∧ _
    unfold bX2_bestAsk_36
    rw [if_neg (show ¬ (6 : Int32) < nI r from by rw [t_lt, nI_toInt (by omega)]; show ¬ (6 : Int) < r; omega)]
    obtain ⟨M1, e1, f1⟩ := c_ask_46 (v := v) (hlead r h1 (by omega)) hB k19 (fX2_bestAsk_36 k19 F) 6 0 gx_N M' (by omega) (by unfold gx_N; omega) hf (fun i hi => by omega)
    obtain ⟨M2, e2, f2⟩ := c_ask_36 hlead k19 m (r + 1) F (nb B (100 * u + r) (XX v LL u r)) M1 (by omega) (by omega) (by omega) (okB_nb hB (XX_le v LL u r)) f1
    exact ⟨M2, Eq.trans e1 e2, f2⟩
theorem c_ask_19 {w : Nat} (hw : w ≤ 40) (hv : ¬ v = 0) (h2 : M.1 2 0 = nI w) (hlead : ∀ u, u < w → ∀ r, 1 ≤ r → r ≤ 6 → ∀ M', fr (fun a => a = 121) M M' → ∀ k, k < 6 → gB (nI k) (M'.1 2 0) (nI u) (nI r) = LL u r k) : ∀ (m u F : Nat) (B : Option (Nat × Nat)) (M' : mm), u + m = w → m < F → okB B → fr (fun a => a = 121) M M' → ∃ M'', fX2_bestAsk_19 F 120 2 v (cb B).1 (cb B).2 (nI u) (lay M') = some ((cb (fU (XX v LL) 100 m u B)).1, lay M'') ∧ fr (fun a => a = 121) M M''
  | m, u, 0, B, M', _, hF, _, _ => by omega
  | 0, u, F + 1, B, M', hu, _, hB, hf => by
    show ∃ M'', bX2_bestAsk_19 (fX2_bestAsk_19 F) 120 2 v (cb B).1 (cb B).2 (nI u) (lay M') = _ ∧ _
    unfold bX2_bestAsk_19
    rw [bi0 brd_2, Option.bind_some, hf.2 2 (by omega), h2, if_pos (nI_le (by omega) (by omega))]
    exact ⟨M', rfl, hf⟩
  | m + 1, u, F + 1, B, M', hu, hF, hB, hf => by
    show ∃ M'', bX2_bestAsk_19 (fX2_bestAsk_19 F) 120 2 v (cb B).1 (cb B).2 (nI u) (lay M') = _ ∧ _
    unfold bX2_bestAsk_19
    rw [bi0 brd_2, Option.bind_some, hf.2 2 (by omega), h2, if_neg (nI_ge (by omega) (by omega)), if_neg hv]
    obtain ⟨M1, e1, f1⟩ := c_ask_36 (v := v) (hlead u (by omega)) (fX2_bestAsk_19 F) 6 1 gx_N B M' (by omega) (by omega) (by unfold gx_N; omega) hB hf
    obtain ⟨M2, e2, f2⟩ := c_ask_19 hw hv h2 hlead m (u + 1) F (fR (XX v LL) 100 u 6 1 B) M1 (by omega) (by omega) (okB_fR (fun r => XX_le v LL u r) 6 1 B hB) f1
    exact ⟨M2, Eq.trans e1 e2, f2⟩
end CK
section RK
variable {M : mm} {v : Int32} {LL : Nat → Nat → Nat → Int32}
theorem r_ask_70 {u r k : Nat} (hk : k < 6) (hlead : ∀ k, k < 6 → gB (nI k) (M.1 123 0) (nI u) (nI r) = LL u r k) (k30 : Nat → Int32 → Int32 → Int32 → Int32 → gx_H → Option (Int32 × gx_H)) (k44 : Nat → Int32 → Int32 → Int32 → Int32 → Int32 → gx_H → Option (Int32 × gx_H)) (k57 : Nat → Int32 → Int32 → Int32 → Int32 → Int32 → Int32 → Int32 → gx_H → Option (Int32 × gx_H)) (b3 b4 : Int32) {x : Nat} (hx : x ≤ 6) : ∀ (m j F c : Nat), j + m = 6 → m < F → (hasB v k ∨ c = 0) → c ≤ j → fX11_ask_70 k30 k44 k57 F 122 v b3 b4 (nI u) (nI r) (nI x) (nI k) (nI c) (nI j) (lay M) = k57 122 v b3 b4 (nI u) (nI r) (nI (if hasB v k then max x (cA v (LL u r) k m j c) else x)) (nI (k + 1)) (lay M)
  | m, j, 0, c, _, hF, _, _ => by omega
  | 0, j, F + 1, c, hj, _, hc, hcj => by
    show bX11_ask_70 k30 k44 k57 (fX11_ask_70 k30 k44 k57 F) 122 v b3 b4 (nI u) (nI r) (nI x) (nI k) (nI c) (nI j) (lay M) = _
    unfold bX11_ask_70 fX11_ask_158 cA
    rw [if_pos (show (6 : Int32) ≤ nI j from nI_le (a := 6) (by omega) (by omega)), nI_1]
    have e : (if hasB v k then max x c else x) = max x c := by
      by_cases z : hasB v k
      · rw [if_pos z]
      · rw [if_neg z]
        rcases hc with q | q
        · exact absurd q z
        · omega
    rw [e]
    by_cases z : c ≤ x
    · rw [if_pos (nI_le z (by omega)), Nat.max_eq_left z]
    · rw [if_neg (nI_ge (by omega) (by omega)), Nat.max_eq_right (by omega)]
  | m + 1, j, F + 1, c, hj, hF, hc, hcj => by
    show bX11_ask_70 k30 k44 k57 (fX11_ask_70 k30 k44 k57 F) 122 v b3 b4 (nI u) (nI r) (nI x) (nI k) (nI c) (nI j) (lay M) = _
    have IH := fun c => r_ask_70 hk hlead k30 k44 k57 b3 b4 hx m (j + 1) F c (by omega) (by omega)
    unfold bX11_ask_70 fX11_ask_134 fX11_ask_135 cA
    rw [if_neg (show ¬ (6 : Int32) ≤ nI j from nI_ge (b := 6) (by omega) (by omega)), f11_has, gx_bd_some, nI_1, nI_1, Int32.add_zero]
    by_cases c1 : hasB v k
    · rw [b2_t c1, if_neg (by decide), f11_has, gx_bd_some]
      by_cases c2 : hasB v j
      · rw [b2_t c2, if_neg (by decide), r_122_0, Option.bind_some, show (0 : Int32) = nI 0 from rfl, ra (by omega), Option.bind_some, f11_goesBy, gx_bd_some, r_122_0, Option.bind_some, ra (by omega), Option.bind_some, f11_goesBy, gx_bd_some, hlead k hk, hlead j (by omega)]
        by_cases c3 : LL u r k = LL u r j
        · rw [if_pos c3, if_pos (show hasB v j ∧ LL u r j = LL u r k from ⟨c2, c3.symm⟩)]
          exact IH (c + 1) (Or.inl c1) (by omega)
        · rw [if_neg c3, if_neg (show ¬ (hasB v j ∧ LL u r j = LL u r k) from fun z => c3 z.2.symm)]
          exact IH c (Or.inl c1) (by omega)
      · rw [b2_f c2, if_pos rfl, if_neg (show ¬ (hasB v j ∧ LL u r j = LL u r k) from fun z => c2 z.1)]
        exact IH c (Or.inl c1) (by omega)
    · rw [b2_f c1, if_pos rfl, IH c (by rcases hc with q | q; exact absurd q c1; exact Or.inr q) (by omega), if_neg c1, if_neg c1]
theorem r_ask_57 {u r : Nat} (hlead : ∀ k, k < 6 → gB (nI k) (M.1 123 0) (nI u) (nI r) = LL u r k) {B : Option (Nat × Nat)} (hB : okB B) (k30 : Nat → Int32 → Int32 → Int32 → Int32 → gx_H → Option (Int32 × gx_H)) (k44 : Nat → Int32 → Int32 → Int32 → Int32 → Int32 → gx_H → Option (Int32 × gx_H)) : ∀ (m k F x : Nat), k + m = 6 → m < F → x ≤ 6 → mA v (LL u r) m k x = XX v LL u r → fX11_ask_57 k30 k44 F 122 v (rb B).1 (rb B).2 (nI u) (nI r) (nI x) (nI k) (lay M) = k44 122 v (rb (nb B (100 * u + r) (XX v LL u r))).1 (rb (nb B (100 * u + r) (XX v LL u r))).2 (nI u) (nI (r + 1)) (lay M)
  | m, k, 0, x, _, hF, _, _ => by omega
  | 0, k, F + 1, x, hk, _, hx, hm => by
    show bX11_ask_57 k30 k44 (fX11_ask_57 k30 k44 F) 122 v (rb B).1 (rb B).2 (nI u) (nI r) (nI x) (nI k) (lay M) = _
    unfold bX11_ask_57 fX11_ask_185 fX11_ask_200
    have hm' : x = XX v LL u r := hm
    subst hm'
    rw [if_pos (show (6 : Int32) ≤ nI k from nI_le (a := 6) (by omega) (by omega)), rb_nb hB (XX_le v LL u r), i100, nI_1]
    by_cases z : (rb B).2 ≤ nI (XX v LL u r)
    · rw [if_pos z, if_pos z, if_pos z]
    · rw [if_neg z, if_neg z, if_neg z]
  | m + 1, k, F + 1, x, hk, hF, hx, hm => by
    show bX11_ask_57 k30 k44 (fX11_ask_57 k30 k44 F) 122 v (rb B).1 (rb B).2 (nI u) (nI r) (nI x) (nI k) (lay M) = _
    unfold bX11_ask_57
    have e : fX11_ask_70 k30 k44 (fX11_ask_57 k30 k44 F) gx_N 122 v (rb B).1 (rb B).2 (nI u) (nI r) (nI x) (nI k) 0 0 (lay M) = _ := r_ask_70 (k := k) (v := v) (by omega) hlead k30 k44 (fX11_ask_57 k30 k44 F) (rb B).1 (rb B).2 hx 6 0 gx_N 0 (by omega) (by unfold gx_N; omega) (Or.inr rfl) (by omega)
    rw [if_neg (show ¬ (6 : Int32) ≤ nI k from nI_ge (b := 6) (by omega) (by omega)), e]
    refine r_ask_57 hlead hB k30 k44 m (k + 1) F _ (by omega) (by omega) ?_ hm
    have := cA_le v (LL u r) k 6 0 0
    split <;> omega
theorem r_ask_44 {u : Nat} (hlead : ∀ r, 1 ≤ r → r ≤ 6 → ∀ k, k < 6 → gB (nI k) (M.1 123 0) (nI u) (nI r) = LL u r k) (k30 : Nat → Int32 → Int32 → Int32 → Int32 → gx_H → Option (Int32 × gx_H)) : ∀ (m r F : Nat) (B : Option (Nat × Nat)), r + m = 7 → 1 ≤ r → m < F → okB B → fX11_ask_44 k30 F 122 v (rb B).1 (rb B).2 (nI u) (nI r) (lay M) = k30 122 v (rb (fR (XX v LL) 100 u m r B)).1 (rb (fR (XX v LL) 100 u m r B)).2 (nI (u + 1)) (lay M)
  | m, r, 0, B, _, _, hF, _ => by omega
  | 0, r, F + 1, B, hr, _, _, hB => by
    show bX11_ask_44 k30 (fX11_ask_44 k30 F) 122 v (rb B).1 (rb B).2 (nI u) (nI r) (lay M) = _
    unfold bX11_ask_44
    rw [if_pos (show (6 : Int32) < nI r from nI_lt (a := 6) (by omega) (by omega)), nI_1]
    rfl
  | m + 1, r, F + 1, B, hr, h1, hF, hB => by
    show bX11_ask_44 k30 (fX11_ask_44 k30 F) 122 v (rb B).1 (rb B).2 (nI u) (nI r) (lay M) = _
    unfold bX11_ask_44
    rw [if_neg (show ¬ (6 : Int32) < nI r from by rw [t_lt, nI_toInt (by omega)]; show ¬ (6 : Int) < r; omega)]
    have e : fX11_ask_57 k30 (fX11_ask_44 k30 F) gx_N 122 v (rb B).1 (rb B).2 (nI u) (nI r) 0 0 (lay M) = _ := r_ask_57 (v := v) (hlead r h1 (by omega)) hB k30 (fX11_ask_44 k30 F) 6 0 gx_N 0 (by omega) (by unfold gx_N; omega) (by omega) rfl
    rw [e]
    exact r_ask_44 hlead k30 m (r + 1) F _ (by omega) (by omega) (by omega) (okB_nb hB (XX_le v LL u r))
theorem r_ask_30 {w : Nat} (hw : w ≤ 40) (h0 : M.1 123 0 = nI w) (hlead : ∀ u, u < w → ∀ r, 1 ≤ r → r ≤ 6 → ∀ k, k < 6 → gB (nI k) (M.1 123 0) (nI u) (nI r) = LL u r k) : ∀ (m u F : Nat) (B : Option (Nat × Nat)), u + m = w → m < F → okB B → fX11_ask_30 F 122 v (rb B).1 (rb B).2 (nI u) (lay M) = some (if v = 0 then -1 else (rb (fU (XX v LL) 100 m u B)).1, lay M)
  | m, u, 0, B, _, hF, _ => by omega
  | 0, u, F + 1, B, hu, _, hB => by
    show bX11_ask_30 (fX11_ask_30 F) 122 v (rb B).1 (rb B).2 (nI u) (lay M) = _
    unfold bX11_ask_30
    rw [r_122_0, Option.bind_some, show gx_aI 0 (lay M) 123 0 = some (M.1 123 0) from ra (k := 0) (by omega), Option.bind_some, h0, if_pos (nI_le (by omega) (by omega))]
    by_cases z : v = 0
    · rw [if_pos z, if_pos z]; rfl
    · rw [if_neg z, if_neg z]; rfl
  | m + 1, u, F + 1, B, hu, hF, hB => by
    show bX11_ask_30 (fX11_ask_30 F) 122 v (rb B).1 (rb B).2 (nI u) (lay M) = _
    unfold bX11_ask_30
    rw [r_122_0, Option.bind_some, show gx_aI 0 (lay M) 123 0 = some (M.1 123 0) from ra (k := 0) (by omega), Option.bind_some, h0, if_neg (nI_ge (by omega) (by omega))]
    have e : fX11_ask_44 (fX11_ask_30 F) gx_N 122 v (rb B).1 (rb B).2 (nI u) 1 (lay M) = _ := r_ask_44 (v := v) (hlead u (by omega)) (fX11_ask_30 F) 6 1 gx_N B (by omega) (by omega) (by unfold gx_N; omega) hB
    rw [e]
    exact r_ask_30 hw h0 hlead m (u + 1) F _ (by omega) (by omega) (okB_fR (fun r => XX_le v LL u r) 6 1 B hB)
end RK
theorem op_ask (a : Int32) : Op (fX10_ask 0 a) (fX11_ask 122 a) := by
  intro M h
  obtain ⟨n, np, hs, q, g⟩ := h.gm
  unfold fX10_ask fX11_ask
  simp only [o_0, o_122, r_0_0, r_0_5, r_1_0, r_1_3, f10_isPlayer, f11_isPlayer, Option.bind_some, gx_bd_some, f10_bad, f11_bad']
  by_cases c1 : 0 ≤ a ∧ a ≤ M.1 2 3 - 1
  case neg =>
    rw [b2_f c1, if_pos rfl]
    refine ⟨_, badC M, badR (badC M), rfl, ?_, h.bad⟩
    rw [show (badC M).1 123 = M.1 123 from by unfold badC; rw [sI_o (by omega)], b2_f (fun z => c1 ((g.pl _).mp z)), if_pos rfl]
  rw [b2_t c1, if_neg (by decide)]
  obtain ⟨l, hl, rfl⟩ := g.isP c1
  obtain ⟨f, e1, e2⟩ := kindsP h g (l := l)
  generalize clF f 6 0 63 = v at e1 e2
  obtain ⟨w, hw, ew⟩ := bn_nI (x := M.1 2 0) (n := 40) ⟨by have := g.L.1; omega, g.L.2⟩
  have hC : ∃ M1, fX2_bestAsk 120 2 25 (nI l) (lay M) = some (if v = 0 then -1 else (rb (fU (XX v (fun u r k => gB (nI k) (M.1 2 0) (nI u) (nI r))) 100 w 0 none)).1, lay M1) ∧ fr (fun a => a = 121) M M1 := by
    unfold fX2_bestAsk
    rw [o_120, Option.bind_some, e1, gx_bd_some]
    by_cases hv : v = 0
    · rw [if_pos hv]
      refine ⟨M, ?_, fr.rf⟩
      rw [show gx_N = 19999 + 1 from rfl]
      show bX2_bestAsk_19 (fX2_bestAsk_19 19999) 120 2 v (-1) 7 0 (lay M) = _
      unfold bX2_bestAsk_19
      rw [bi0 brd_2, Option.bind_some, if_pos hv, ite_self]
      rfl
    · rw [if_neg hv]
      obtain ⟨M1, x1, x2⟩ := c_ask_19 (M := M) (LL := fun u r k => gB (nI k) (M.1 2 0) (nI u) (nI r)) hw hv ew (fun u _ r _ _ M' hf k _ => by rw [hf.2 2 (by omega)]) w 0 gx_N none M (by omega) (by unfold gx_N; omega) (fun p hp => by cases hp) fr.rf
      refine ⟨M1, ?_, x2⟩
      rw [← cb_rb]
      exact x1
  obtain ⟨M1, x1, x2⟩ := hC
  have k1 : kp M M1 := x2.kp (fun a z => by omega)
  have h1 := h.kp k1
  rw [x1, gx_bd_some]
  have ee : ∀ c, c ≤ 29 ∨ c = 123 → M1.1 c = M.1 c := fun c hc => x2.2 c (by omega)
  have e22 : M1.2.2 11 = M.2.2 11 := by rw [x2.1]
  have g1 := g.eq ee e22
  refine ⟨_, M1, M1, rfl, ?_, h1⟩
  rw [b2_t ((g1.pl _).mpr (by rw [ee 2 (by omega)]; exact c1)), if_neg (by decide), r_whatOf_eq g ee e22 e2, gx_bd_some]
  exact r_ask_30 (M := M1) (v := v) (LL := fun u r k => gB (nI k) (M.1 2 0) (nI u) (nI r)) hw (by rw [g1.w0, ee 2 (by omega)]; exact ew) (fun u _ r _ _ k _ => by rw [g1.w0, ee 2 (by omega)]) w 0 gx_N none (by omega) (by unfold gx_N; omega) (fun p hp => by cases hp)
