/-! the start: what the Statement gives is what the cells' machine needs -/
theorem gx_sub_tbl : ∀ w ∈ gx_tbl, w ∈ lw_tbl := fun w h => (List.mem_filter.mp h).1
theorem gx_nest_in : ∀ q ∈ gx_nest, Cond.methodLinkNest q.1 q.2.1 q.2.2 RX10 ∈ lw_tbl := by
  have h : gx_nest.map (fun q => Cond.methodLinkNest q.1 q.2.1 q.2.2 RX10) = ([105, 111, 186, 199, 234, 280, 285, 287, 319, 324, 355, 554, 719, 736, 928] : List Nat).filterMap (fun i => lw_tbl[i]?) := by decide +kernel
  intro q hq
  have h1 : Cond.methodLinkNest q.1 q.2.1 q.2.2 RX10 ∈ gx_nest.map (fun q => Cond.methodLinkNest q.1 q.2.1 q.2.2 RX10) := List.mem_map.mpr ⟨q, hq, rfl⟩
  rw [h] at h1
  obtain ⟨i, -, hi⟩ := List.mem_filterMap.mp h1
  exact List.mem_of_getElem? hi
theorem gx_txt_in : ∀ (i : Nat) (q : Nat × String), gx_txt[i]? = some q → Cond.stringRef RX9 q.1 q.2 ∈ lw_tbl := by
  have h : gx_txt.map (fun q => Cond.stringRef RX9 q.1 q.2) = ([493, 564, 571, 577, 582] : List Nat).filterMap (fun i => lw_tbl[i]?) := by decide +kernel
  intro i q hq
  have h1 : Cond.stringRef RX9 q.1 q.2 ∈ gx_txt.map (fun q => Cond.stringRef RX9 q.1 q.2) := List.mem_map.mpr ⟨q, List.mem_of_getElem? hq, rfl⟩
  rw [h] at h1
  obtain ⟨j, -, hj⟩ := List.mem_filterMap.mp h1
  exact List.mem_of_getElem? hj
theorem gx_inst0 : Cond.instantiable RX0 11 ∈ lw_tbl := List.mem_of_getElem? (i := 110) (by decide +kernel)
theorem gx_inst1 : Cond.instantiable RX1 4 ∈ lw_tbl := List.mem_of_getElem? (i := 104) (by decide +kernel)
theorem gx_inst2 : Cond.instantiable RX2 1 ∈ lw_tbl := List.mem_of_getElem? (i := 354) (by decide +kernel)
theorem gx_inst3 : Cond.instantiable RX3 2 ∈ lw_tbl := List.mem_of_getElem? (i := 185) (by decide +kernel)
theorem gx_inst4 : Cond.instantiable RX5 8 ∈ lw_tbl := List.mem_of_getElem? (i := 318) (by decide +kernel)
theorem gx_inst5 : Cond.instantiable RX7 5 ∈ lw_tbl := List.mem_of_getElem? (i := 233) (by decide +kernel)
theorem gx_inst6 : Cond.instantiable RX8 5 ∈ lw_tbl := List.mem_of_getElem? (i := 198) (by decide +kernel)
theorem gx_inst7 : Cond.instantiable RX9 8 ∈ lw_tbl := List.mem_of_getElem? (i := 279) (by decide +kernel)
theorem gx_inst8 : Cond.instantiable RX10 11 ∈ lw_tbl := List.mem_of_getElem? (i := 96) (by decide +kernel)
theorem gx_inst9 : Cond.instantiable RX11 14 ∈ lw_tbl := List.mem_of_getElem? (i := 999) (by decide +kernel)
theorem gx_ao3 : Cond.arrayOver (.object RX8) ∈ lw_tbl := List.mem_of_getElem? (i := 197) (by decide +kernel)
theorem gx_ao4 : Cond.arrayOver (.object RX1) ∈ lw_tbl := List.mem_of_getElem? (i := 277) (by decide +kernel)
theorem gx_lsC : Cond.laysStatic "java/lang/String" "COMPACT_STRINGS" "Z" ∈ lw_tbl := List.mem_of_getElem? (i := 507) (by decide +kernel)
theorem gx_lsF : Cond.laysStatic "jdk/internal/util/Preconditions" "SIOOBE_FORMATTER" "Ljava/util/function/BiFunction;" ∈ lw_tbl := List.mem_of_getElem? (i := 523) (by decide +kernel)
theorem gx_iniS : Cond.initialized "java/lang/String" ∈ lw_tbl := List.mem_of_getElem? (i := 89) (by decide +kernel)
theorem gx_iniP : Cond.initialized "jdk/internal/util/Preconditions" ∈ lw_tbl := List.mem_of_getElem? (i := 91) (by decide +kernel)
def gx_tm (i : Nat) : Term := Term.string RX9 (gx_txt.getD i (0, "")).1
theorem gx_c5 {P : Nat → Prop} (h0 : P 0) (h1 : P 1) (h2 : P 2) (h3 : P 3) (h4 : P 4) : ∀ i, i < 5 → P i := by
  intro i hi
  rcases (show i = 0 ∨ i = 1 ∨ i = 2 ∨ i = 3 ∨ i = 4 by omega) with rfl | rfl | rfl | rfl | rfl <;> assumption
set_option maxRecDepth 100000 in
set_option maxHeartbeats 4000000 in
theorem gx_env {s : State} {b L : Nat} {xs : Nat → Int32} (l : Launch) (hts : ∀ w ∈ lw_tbl, w.before #[Value.ref b] s = true) (hX : va_X b L xs s s.heap) (hbl : b < s.heap.size) (hgv : (Jvm.Cond.and given_1 narrow_1).before #[Value.ref b] s = true) :
    ∃ E : gx_Env, gx_l E = l ∧ gx_b E = s.heap.size ∧ gx_aK E 11 = b ∧ E.2.2.2.2.2 = (L, xs) ∧ gx_ok E s s.heap := by
  have hs := flat_of_before _ hgv
  obtain ⟨c0, i0, k0⟩ := u_known (C := RX0) (T := TX0) (N := 11) (n := 11) hts (fun w h => gx_sub_tbl w (inX0 w h)) (hts _ gx_inst0)
  obtain ⟨c1, i1, k1⟩ := u_known (C := RX1) (T := TX1) (N := 4) (n := 4) hts (fun w h => gx_sub_tbl w (inX1 w h)) (hts _ gx_inst1)
  obtain ⟨c2, i2, k2⟩ := u_known (C := RX2) (T := TX2) (N := 1) (n := 1) hts (fun w h => gx_sub_tbl w (inX2 w h)) (hts _ gx_inst2)
  obtain ⟨c3, i3, k3⟩ := u_known (C := RX3) (T := TX3) (N := 2) (n := 2) hts (fun w h => gx_sub_tbl w (inX3 w h)) (hts _ gx_inst3)
  obtain ⟨c4, i4, k4⟩ := u_known (C := RX5) (T := TX5) (N := 8) (n := 8) hts (fun w h => gx_sub_tbl w (inX5 w h)) (hts _ gx_inst4)
  obtain ⟨c5, i5, k5⟩ := u_known (C := RX7) (T := TX7) (N := 5) (n := 5) hts (fun w h => gx_sub_tbl w (inX7 w h)) (hts _ gx_inst5)
  obtain ⟨c6, i6, k6⟩ := u_known (C := RX8) (T := TX8) (N := 5) (n := 5) hts (fun w h => gx_sub_tbl w (inX8 w h)) (hts _ gx_inst6)
  obtain ⟨c7, i7, k7⟩ := u_known (C := RX9) (T := TX9) (N := 8) (n := 8) hts (fun w h => gx_sub_tbl w (inX9 w h)) (hts _ gx_inst7)
  obtain ⟨c8, i8, k8⟩ := u_known (C := RX10) (T := TX10) (N := 11) (n := 11) hts (fun w h => gx_sub_tbl w (inX10 w h)) (hts _ gx_inst8)
  obtain ⟨c9, i9, k9⟩ := u_known (C := RX11) (T := TX11) (N := 14) (n := 14) hts (fun w h => gx_sub_tbl w (inX11 w h)) (hts _ gx_inst9)
  obtain ⟨a0, ka0, co0, f01, f02, f03⟩ := Cond.arrayClass_spec (hts _ (gx_sub_tbl _ ka_int))
  obtain ⟨a1, ka1, co1, f11, f12, f13⟩ := Cond.arrayClass_spec (hts _ (gx_sub_tbl _ ka_byte))
  obtain ⟨a2, ka2, co2, f21, f22, f23⟩ := Cond.arrayClass_spec (hts _ (gx_sub_tbl _ ka_boolean))
  obtain ⟨co3, a3, ka3, f31, -, f32, f33, f34⟩ := Cond.arrayOver_spec (hts _ gx_ao3)
  obtain ⟨co4, a4, ka4, f41, -, f42, f43, f44⟩ := Cond.arrayOver_spec (hts _ gx_ao4)
  have hA : ∀ a : Nat, a < s.heap.size → ¬ (fun q : Nat => s.heap.size ≤ q) a := fun a h => Nat.not_le.mpr h
  obtain ⟨adK, adV, hSt, hev⟩ := vk_Sof (args := #[Value.ref b]) (s := s) (N := 5) (tm := gx_tm) (len := gx_len) (byt := gx_byt) (A := fun q : Nat => s.heap.size ≤ q)
    (gx_c5 (by decide) (by decide) (by decide) (by decide) (by decide))
    (gx_c5 (hs _ (by decide +kernel)) (hs _ (by decide +kernel)) (hs _ (by decide +kernel)) (hs _ (by decide +kernel)) (hs _ (by decide +kernel)))
    (gx_c5 (hs _ (by decide +kernel)) (hs _ (by decide +kernel)) (hs _ (by decide +kernel)) (hs _ (by decide +kernel)) (hs _ (by decide +kernel)))
    (gx_c5 (hs _ (by decide +kernel)) (hs _ (by decide +kernel)) (hs _ (by decide +kernel)) (hs _ (by decide +kernel)) (hs _ (by decide +kernel)))
    (gx_c5 (hs _ (by decide +kernel)) (hs _ (by decide +kernel)) (hs _ (by decide +kernel)) (hs _ (by decide +kernel)) (hs _ (by decide +kernel)))
    (gx_c5 (P := fun i => ∀ j : Nat, j < gx_len.getD i 0 → (Cond.eq (.elem (.field (gx_tm i) "java/lang/String" "value" "[B") (.int (Int32.ofNat j))) (.int ((gx_byt.getD i []).getD j 0))).before #[Value.ref b] s = true)
      (by intro j hj; rcases (show j = 0 ∨ j = 1 ∨ j = 2 ∨ j = 3 ∨ j = 4 by have : j < 5 := hj; omega) with rfl | rfl | rfl | rfl | rfl <;> exact hs _ (by decide +kernel))
      (by intro j hj; rcases (show j = 0 ∨ j = 1 ∨ j = 2 ∨ j = 3 by have : j < 4 := hj; omega) with rfl | rfl | rfl | rfl <;> exact hs _ (by decide +kernel))
      (by intro j hj; rcases (show j = 0 ∨ j = 1 ∨ j = 2 ∨ j = 3 ∨ j = 4 ∨ j = 5 by have : j < 6 := hj; omega) with rfl | rfl | rfl | rfl | rfl | rfl <;> exact hs _ (by decide +kernel))
      (by intro j hj; rcases (show j = 0 ∨ j = 1 ∨ j = 2 by have : j < 3 := hj; omega) with rfl | rfl | rfl <;> exact hs _ (by decide +kernel))
      (by intro j hj; rcases (show j = 0 ∨ j = 1 ∨ j = 2 ∨ j = 3 ∨ j = 4 by have : j < 5 := hj; omega) with rfl | rfl | rfl | rfl | rfl <;> exact hs _ (by decide +kernel)))
    (fun i j hi hj hne => by
      rcases (show i = 0 ∨ i = 1 ∨ i = 2 ∨ i = 3 ∨ i = 4 by omega) with rfl | rfl | rfl | rfl | rfl <;> rcases (show j = 0 ∨ j = 1 ∨ j = 2 ∨ j = 3 ∨ j = 4 by omega) with rfl | rfl | rfl | rfl | rfl <;> first | exact absurd rfl hne | exact Or.inl (hs _ (by decide +kernel)) | exact Or.inr (hs _ (by decide +kernel)))
    hA
  have hC := va_Zof (A := fun q : Nat => s.heap.size ≤ q) (hts _ gx_lsC) (hts _ gx_iniS) (va_eqi (hs (Cond.eq (.static "java/lang/String" "COMPACT_STRINGS" "Z") (.int 1)) (by decide +kernel))) hA
  have hFq := va_Zqof (A := fun q : Nat => s.heap.size ≤ q) (hts _ gx_lsF) (hts _ gx_iniP) (hs _ (by decide +kernel)) hA
  obtain ⟨vF, hF, hFv⟩ : ∃ v : Value, va_Z "jdk/internal/util/Preconditions" "SIOOBE_FORMATTER" "Ljava/util/function/BiFunction;" v (fun q : Nat => s.heap.size ≤ q) s s.heap ∧ (v = .null ∨ ∃ t, v = .ref t) := by
    rcases hFq with h | ⟨t, h⟩
    · exact ⟨_, h, Or.inl rfl⟩
    · exact ⟨_, h, Or.inr ⟨t, rfl⟩⟩
  refine ⟨(l, s.heap.size, (fun i => if i < 5 then adK i else if i < 10 then adV (i - 5) else b, vF), (fun k => match k with | 0 => a0 | 1 => a1 | 2 => a2 | 3 => a3 | _ => a4), (fun k => match k with | 0 => c0 | 1 => c1 | 2 => c2 | 3 => c3 | 4 => c4 | 5 => c5 | 6 => c6 | 7 => c7 | 8 => c8 | _ => c9, fun k => match k with | 0 => i0 | 1 => i1 | 2 => i2 | 3 => i3 | 4 => i4 | 5 => i5 | 6 => i6 | 7 => i7 | 8 => i8 | _ => i9), (L, xs)), rfl, rfl, rfl, rfl, ⟨?_, ?_⟩, fun q hq => va_Nw.of rfl (hts _ (gx_nest_in q hq)), va_AO.of (hts _ gx_ao3), va_AO.of (hts _ gx_ao4), ?_, ?_, hC, hF, hFv, hX, hbl⟩
  · intro k q hq
    match k, hq with
    | 0, hq => cases hq; exact k0
    | 1, hq => cases hq; exact k1
    | 2, hq => cases hq; exact k2
    | 3, hq => cases hq; exact k3
    | 4, hq => cases hq; exact k4
    | 5, hq => cases hq; exact k5
    | 6, hq => cases hq; exact k6
    | 7, hq => cases hq; exact k7
    | 8, hq => cases hq; exact k8
    | 9, hq => cases hq; exact k9
    | k + 10, hq => simp [vwCl] at hq
  · intro k q hq
    match k, hq with
    | 0, hq => cases hq; exact ⟨fun n z => ⟨fun k h => (by cases h), ka0, f02, co0, f03⟩, f01⟩
    | 1, hq => cases hq; exact ⟨fun n z => ⟨fun k h => (by cases h), ka1, f12, co1, f13⟩, f11⟩
    | 2, hq => cases hq; exact ⟨fun n z => ⟨fun k h => (by cases h), ka2, f22, co2, f23⟩, f21⟩
    | 3, hq => cases hq; exact ⟨fun n z => ⟨fun k h => (by cases h), ka3, f32, co3, f33⟩, ka3, co3, f32, f33, f31, f34⟩
    | 4, hq => cases hq; exact ⟨fun n z => ⟨fun k h => (by cases h), ka4, f42, co4, f43⟩, ka4, co4, f42, f43, f41, f44⟩
    | k + 5, hq => simp [gx_tys] at hq
  · refine ⟨fun i hi => ?_, fun i j hi hj e => ?_⟩
    · have h := hSt.1 i hi
      have e1 : (if i < 5 then adK i else if i < 10 then adV (i - 5) else b) = adK i := if_pos hi
      have e2 : (if 5 + i < 5 then adK (5 + i) else if 5 + i < 10 then adV (5 + i - 5) else b) = adV i := by
        rw [if_neg (by omega), if_pos (by omega), show 5 + i - 5 = i by omega]
      show va_O _ (if i < 5 then adK i else if i < 10 then adV (i - 5) else b) _ _ _ ∧ va_OF _ _ _ _ (if i < 5 then adK i else if i < 10 then adV (i - 5) else b) _ _ _ ∧ va_OF _ _ _ (.ref (if 5 + i < 5 then adK (5 + i) else if 5 + i < 10 then adV (5 + i - 5) else b)) (if i < 5 then adK i else if i < 10 then adV (i - 5) else b) _ _ _ ∧ va_T _ (if 5 + i < 5 then adK (5 + i) else if 5 + i < 10 then adV (5 + i - 5) else b) _ _ _ _ _
      rw [e1, e2]
      exact h
    · have e : (if i < 5 then adK i else if i < 10 then adV (i - 5) else b) = (if j < 5 then adK j else if j < 10 then adV (j - 5) else b) := e
      rw [if_pos hi, if_pos hj] at e
      exact hSt.2 i j hi hj e
  · intro i q hq
    have hi : i < 5 := (List.getElem?_eq_some_iff.mp hq).1
    have e1 : (if i < 5 then adK i else if i < 10 then adV (i - 5) else b) = adK i := if_pos hi
    show vk_R RX9 q.1 q.2 (if i < 5 then adK i else if i < 10 then adV (i - 5) else b) s
    rw [e1]
    have h2 := hev i hi
    have e3 : (gx_txt.getD i (0, "")).1 = q.1 := by rw [List.getD_eq_getElem?_getD, hq]; rfl
    unfold gx_tm at h2
    rw [e3] at h2
    exact vk_R.of (hts _ (gx_txt_in i q hq)) h2
