/-! choice: the reference's gains, what rests, the call -/
section CH
variable {d n np a b : Nat} {V : Nat → Int32}
def frY (M M' : mm) : Prop := M'.2 = M.2 ∧ (∀ c, c ≠ 123 → c ≠ 128 → c ≠ 129 → M'.1 c = M.1 c) ∧ ∀ j, j < 812 → M'.1 123 j = M.1 123 j
theorem frY.rf {M : mm} : frY M M := ⟨rfl, fun _ _ _ _ => rfl, fun _ _ => rfl⟩
theorem frY.tr {M M' M'' : mm} (h : frY M M') (h2 : frY M' M'') : frY M M'' := ⟨h2.1.trans h.1, fun c p q r => (h2.2.1 c p q r).trans (h.2.1 c p q r), fun j hj => (h2.2.2 j hj).trans (h.2.2 j hj)⟩
theorem frW.Y {M M' : mm} (h : frW 812 852 M M') : frY M M' := ⟨h.1, fun c p _ _ => h.2.1 c p, fun j hj => h.2.2 j (Or.inl hj)⟩
theorem frY.p28 {M : mm} {q : Nat} {x : Int32} : frY M (sI M 128 q x) := ⟨rfl, fun a _ h _ => sI_o h, fun j _ => by rw [sI_o (by omega)]⟩
theorem frY.p29 {M : mm} {q : Nat} {x : Int32} : frY M (sI M 129 q x) := ⟨rfl, fun a _ _ h => sI_o h, fun j _ => by rw [sI_o (by omega)]⟩
theorem frY_kp {M M' : mm} (h : frY M M') : kp M M' := by
  obtain ⟨h1, h2, h3⟩ := h
  exact ⟨by rw [h1], by rw [h1], by rw [h1], by rw [h1], fun a ha => h2 a (by omega) (by omega) (by omega), by rw [h2 90 (by omega) (by omega) (by omega)], by rw [h2 122 (by omega) (by omega) (by omega)], fun j hj => h3 j (by omega)⟩
theorem g_ref {W : Nat → Int32} {x y i j : Nat} : ((if W (32 + x) = W 0 then (10 : Int32) else 0) + (if W (32 + x) ≤ W (32 + y) then 0 else 1)) - (if i = j then 3 else 0) = gn W x y i j := rfl
theorem if03 {α : Type} {i j : Nat} (hi : i < 2147483648) (hj : j < 2147483648) (f : Int32 → α) : (if nI i = nI j then f 3 else f 0) = f (if i = j then 3 else 0) := by
  by_cases c : i = j
  · rw [if_pos c, if_pos (by rw [c])]
  · rw [if_neg c, if_neg (ne_nI hi hj c)]
theorem ifb {α : Type} {p : Prop} [Decidable p] (x y : Int32) (f : Int32 → α) : (if b2 p = 0 then f x else f y) = f (if p then y else x) := by
  by_cases c : p
  · rw [b2_t c, if_neg (by decide), if_pos c]
  · rw [b2_f c, if_pos rfl, if_neg c]
theorem ifp {α : Type} {p : Prop} [Decidable p] (x y : Int32) (f : Int32 → α) : (if p then f x else f y) = f (if p then x else y) := by
  by_cases c : p
  · rw [if_pos c, if_pos c]
  · rw [if_neg c, if_neg c]
theorem r_gains_15 {M0 : mm} {i : Nat} (hd1 : 2 ≤ d) (hd : d ≤ 6) (ha : a < np) (hb : b < np) (hi : 1 ≤ i) (hi6 : i ≤ d) (hok : okV V n np) (hD : M0.1 123 1 = nI d) (he : eqv n np V (VR M0.1 0)) (k2 : Nat → Int32 → Int32 → Int32 → gx_H → Option (Unit × gx_H)) : ∀ (m j F : Nat) (M : mm), j + m = d + 1 → 1 ≤ j → m < F → frY M0 M → ∃ M', fX11_gains_15 k2 F 122 (nI a) (nI b) (nI i) (nI j) (lay M) = k2 122 (nI a) (nI b) (nI (i + 1)) (lay M') ∧ frY M0 M' ∧ (∀ q, (∀ x, j ≤ x → x ≤ d → q ≠ 7 * i + x) → M'.1 128 q = M.1 128 q ∧ M'.1 129 q = M.1 129 q) ∧ ∀ x, j ≤ x → x ≤ d → M'.1 128 (7 * i + x) = gn (W2 n a b V i x) a b i x ∧ M'.1 129 (7 * i + x) = gn (W2 n a b V i x) b a i x
  | m, j, 0, M, _, _, hF, _ => by omega
  | 0, j, F + 1, M, hj, _, _, hf => by
    show ∃ M', bX11_gains_15 k2 (fX11_gains_15 k2 F) 122 (nI a) (nI b) (nI i) (nI j) (lay M) = _ ∧ _
    unfold bX11_gains_15
    rw [r_122_0, Option.bind_some, show gx_aI 0 (lay M) 123 1 = some (M.1 123 1) from ra (k := 1) (by omega), Option.bind_some, hf.2.2 1 (by omega), hD, if_pos (nI_lt (by omega) (by omega)), nI_1]
    exact ⟨M, rfl, hf, fun _ _ => ⟨rfl, rfl⟩, fun x h1 h2 => by omega⟩
  | m + 1, j, F + 1, M, hj, hj1, hF, hf => by
    have h4 := hok.2.2.2.1
    have hn := hok.2.1
    have hq : 7 * i + j < 49 := by omega
    obtain ⟨M1, t1, t2, t3⟩ := r_tries M
    have q0 : eqv n np V (VR M.1 0) := eqv_low he hn h4 (fun j hj => by rw [VR0, VR0]; exact hf.2.2 j (by omega))
    have q1 : eqv n np V (VR M1.1 812) := eqv_low q0 hn h4 t3
    obtain ⟨M2, u1, u2, u3⟩ := r_rollsTried (M := M1) (i := a) (t := nI i) (eqv_ok q1 hok) ha
    have u2' : VR M2.1 812 = one n a (VR M1.1 812) i := u2
    have q2 : eqv n np (one n a V i) (VR M2.1 812) := by rw [u2']; exact eqv_one q1 ha
    have hokA : okV (one n a V i) n np := okV_one hok ha hi (by omega)
    obtain ⟨M3, v1, v2, v3⟩ := r_rollsTried (M := M2) (i := b) (t := nI j) (eqv_ok q2 hokA) hb
    have v2' : VR M3.1 812 = one n b (VR M2.1 812) j := v2
    have q3 : eqv n np (W2 n a b V i j) (VR M3.1 812) := by rw [v2']; exact eqv_one q2 hb
    have ea : M3.1 123 (844 + a) = W2 n a b V i j (32 + a) := by rw [(q3.2.2.2.2.2 a ha).2.1]; unfold VR; rw [show 812 + (32 + a) = 844 + a by omega]
    have eb : M3.1 123 (844 + b) = W2 n a b V i j (32 + b) := by rw [(q3.2.2.2.2.2 b hb).2.1]; unfold VR; rw [show 812 + (32 + b) = 844 + b by omega]
    show ∃ M', bX11_gains_15 k2 (fX11_gains_15 k2 F) 122 (nI a) (nI b) (nI i) (nI j) (lay M) = _ ∧ _
    unfold bX11_gains_15
    rw [r_122_0, Option.bind_some, show gx_aI 0 (lay M) 123 1 = some (M.1 123 1) from ra (k := 1) (by omega), Option.bind_some, hf.2.2 1 (by omega), hD, if_neg (show ¬ nI d < nI j from by rw [t_lt, nI_toInt (by omega), nI_toInt (by omega)]; omega), t1, gx_bd_some, u1, gx_bd_some, v1, gx_bd_some, r_122_0, Option.bind_some, show (844 : Int32) = nI 844 from rfl, nI_add, nI_add, ra (show 844 + a < 852 by omega), Option.bind_some, Option.bind_some, ra (show 844 + b < 852 by omega), Option.bind_some, ea, eb]
    generalize hW : W2 n a b V i j = W at *
    rw [if03 (by omega) (by omega) (fun s => fX11_gains_78 k2 (fX11_gains_15 k2 F) 122 (nI a) (nI b) (nI i) (nI j) (W (32 + a)) (W (32 + b)) s (lay M3))]
    unfold fX11_gains_78
    rw [r_122_11, Option.bind_some, r_hm ha h4 q3, gx_bd_some, show (7 : Int32) * nI i + nI j = nI (7 * i + j) from by rw [show (7 : Int32) = nI 7 from rfl, pk_mul, nI_add]]
    rw [ifb 0 10 (fun s => fX11_gains_108 k2 (fX11_gains_15 k2 F) 122 (nI a) (nI b) (nI i) (nI j) (W (32 + a)) (W (32 + b)) (if i = j then 3 else 0) 128 (nI (7 * i + j)) s (lay M3))]
    unfold fX11_gains_108
    rw [ifp 0 1 (fun s => fX11_gains_120 k2 (fX11_gains_15 k2 F) 122 (nI a) (nI b) (nI i) (nI j) (W (32 + a)) (W (32 + b)) (if i = j then 3 else 0) 128 (nI (7 * i + j)) (if W (32 + a) = W 0 then 10 else 0) s (lay M3))]
    unfold fX11_gains_120
    rw [g_ref, sI_lay 49 (show isA 128 0 49 = true by decide) (by decide) hq (by decide), Option.bind_some, r_122_12, Option.bind_some]
    generalize hM4 : sI M3 128 (7 * i + j) (gn W a b i j) = M4
    have q4 : eqv n np W (VR M4.1 812) := by
      have : VR M4.1 812 = VR M3.1 812 := by unfold VR; rw [← hM4, sI_o (by omega)]
      rw [this]; exact q3
    rw [r_hm hb h4 q4, gx_bd_some, show (7 : Int32) * nI i + nI j = nI (7 * i + j) from by rw [show (7 : Int32) = nI 7 from rfl, pk_mul, nI_add]]
    rw [ifb 0 10 (fun s => fX11_gains_153 k2 (fX11_gains_15 k2 F) 122 (nI a) (nI b) (nI i) (nI j) (W (32 + a)) (W (32 + b)) (if i = j then 3 else 0) 129 (nI (7 * i + j)) s (lay M4))]
    unfold fX11_gains_153
    rw [ifp 0 1 (fun s => fX11_gains_165 k2 (fX11_gains_15 k2 F) 122 (nI a) (nI b) (nI i) (nI j) (if i = j then 3 else 0) 129 (nI (7 * i + j)) (if W (32 + b) = W 0 then 10 else 0) s (lay M4))]
    unfold fX11_gains_165
    rw [g_ref, sI_lay 49 (show isA 129 0 49 = true by decide) (by decide) hq (by decide), Option.bind_some, nI_1]
    generalize hM5 : sI M4 129 (7 * i + j) (gn W b a i j) = M5
    have f5 : frY M M5 := by
      rw [← hM5, ← hM4]
      exact (((t2.tr u3).tr v3).Y.tr frY.p28).tr frY.p29
    have v128 : ∀ q, M5.1 128 q = if q = 7 * i + j then gn W a b i j else M.1 128 q := fun q => by
      rw [← hM5, sI_o (by omega), ← hM4]
      by_cases z : q = 7 * i + j
      · rw [if_pos z, z, sI_s]
      · rw [if_neg z, sI_n z, ((t2.tr u3).tr v3).2.1 128 (by omega)]
    have v129 : ∀ q, M5.1 129 q = if q = 7 * i + j then gn W b a i j else M.1 129 q := fun q => by
      rw [← hM5]
      by_cases z : q = 7 * i + j
      · rw [if_pos z, z, sI_s]
      · rw [if_neg z, sI_n z, ← hM4, sI_o (by omega), ((t2.tr u3).tr v3).2.1 129 (by omega)]
    obtain ⟨M6, x1, x2, x3, x4⟩ := r_gains_15 hd1 hd ha hb hi hi6 hok hD he k2 m (j + 1) F M5 (by omega) (by omega) (by omega) (hf.tr f5)
    refine ⟨M6, x1, x2, fun q hq => ?_, fun x q1 q2 => ?_⟩
    · have y := x3 q (fun x z1 z2 => hq x (by omega) z2)
      have z := hq j (Nat.le_refl _) (by omega)
      rw [y.1, y.2, v128, v129, if_neg z, if_neg z]
      exact ⟨rfl, rfl⟩
    · by_cases z : x = j
      · subst z
        have y := x3 (7 * i + x) (fun w z1 z2 => by omega)
        rw [y.1, y.2, v128, v129, if_pos rfl, if_pos rfl, hW]
        exact ⟨rfl, rfl⟩
      · exact x4 x (by omega) q2
theorem r_gains_2 {M0 : mm} (hd1 : 2 ≤ d) (hd : d ≤ 6) (ha : a < np) (hb : b < np) (hok : okV V n np) (hD : M0.1 123 1 = nI d) (he : eqv n np V (VR M0.1 0)) : ∀ (m i F : Nat) (M : mm), i + m = d + 1 → 1 ≤ i → m < F → frY M0 M → ∃ M', fX11_gains_2 F 122 (nI a) (nI b) (nI i) (lay M) = some ((), lay M') ∧ frY M0 M' ∧ (∀ q, (∀ y x, i ≤ y → y ≤ d → 1 ≤ x → x ≤ d → q ≠ 7 * y + x) → M'.1 128 q = M.1 128 q ∧ M'.1 129 q = M.1 129 q) ∧ ∀ y x, i ≤ y → y ≤ d → 1 ≤ x → x ≤ d → M'.1 128 (7 * y + x) = gn (W2 n a b V y x) a b y x ∧ M'.1 129 (7 * y + x) = gn (W2 n a b V y x) b a y x
  | m, i, 0, M, _, _, hF, _ => by omega
  | 0, i, F + 1, M, hi, _, _, hf => by
    show ∃ M', bX11_gains_2 (fX11_gains_2 F) 122 (nI a) (nI b) (nI i) (lay M) = _ ∧ _
    unfold bX11_gains_2
    rw [r_122_0, Option.bind_some, show gx_aI 0 (lay M) 123 1 = some (M.1 123 1) from ra (k := 1) (by omega), Option.bind_some, hf.2.2 1 (by omega), hD, if_pos (nI_lt (by omega) (by omega))]
    exact ⟨M, rfl, hf, fun _ _ => ⟨rfl, rfl⟩, fun y x h1 h2 => by omega⟩
  | m + 1, i, F + 1, M, hi, hi1, hF, hf => by
    show ∃ M', bX11_gains_2 (fX11_gains_2 F) 122 (nI a) (nI b) (nI i) (lay M) = _ ∧ _
    unfold bX11_gains_2
    rw [r_122_0, Option.bind_some, show gx_aI 0 (lay M) 123 1 = some (M.1 123 1) from ra (k := 1) (by omega), Option.bind_some, hf.2.2 1 (by omega), hD, if_neg (show ¬ nI d < nI i from by rw [t_lt, nI_toInt (by omega), nI_toInt (by omega)]; omega)]
    obtain ⟨M2, b1, b2, b3, b4⟩ := r_gains_15 (i := i) hd1 hd ha hb hi1 (by omega) hok hD he (fX11_gains_2 F) d 1 gx_N M (by omega) (by omega) (by unfold gx_N; omega) hf
    have b1' : fX11_gains_15 (fX11_gains_2 F) gx_N 122 (nI a) (nI b) (nI i) 1 (lay M) = _ := b1
    rw [b1']
    obtain ⟨M3, x1, x2, x3, x4⟩ := r_gains_2 hd1 hd ha hb hok hD he m (i + 1) F M2 (by omega) (by omega) (by omega) b2
    refine ⟨M3, x1, x2, fun q hq => ?_, fun y x q1 q2 q3 q4 => ?_⟩
    · have z := x3 q (fun y x z1 z2 z3 z4 => hq y x (by omega) z2 z3 z4)
      have z' := b3 q (fun x z1 z2 => hq i x (Nat.le_refl _) (by omega) z1 z2)
      rw [z.1, z.2, z'.1, z'.2]
      exact ⟨rfl, rfl⟩
    · by_cases z : y = i
      · subst z
        have w := x3 (7 * y + x) (fun y' x' z1 z2 z3 z4 => by omega)
        rw [w.1, w.2]
        exact b4 x q3 q4
      · exact x4 y x (by omega) q2 q3 q4
/-! what rests -/
def al (p : Nat → Bool) : Nat → Nat → Bool
  | 0, _ => true
  | m + 1, r => p r && al p m (r + 1)
def bI (x : Bool) : Int32 := if x = true then 1 else 0
theorem ret_bI (x : Bool) (h : gx_H) : gx_ret .boolean (bI x) h = some (bI x, h) := by cases x <;> rfl
def pR (G H : Nat → Nat → Int32) (i j r : Nat) : Bool := decide (¬ G i j < G r j ∧ H i r ≤ H i j)
section RS
variable {G H : Nat → Nat → Int32}
theorem c_rests_2 {M : mm} {i j : Nat} (hd : d ≤ 6) (hi1 : 1 ≤ i) (hi : i ≤ d) (hj1 : 1 ≤ j) (hj : j ≤ d) (hD : M.1 102 1 = nI d) (hG : ∀ y x, 1 ≤ y → y ≤ d → 1 ≤ x → x ≤ d → M.1 118 (pI y x) = G y x ∧ M.1 119 (pI y x) = H y x) : ∀ (m r F : Nat), r + m = d + 1 → 1 ≤ r → m < F → fX5_rests_2 F 101 (nI i) (nI j) (nI r) (lay M) = some (bI (al (pR G H i j) m r), lay M)
  | m, r, 0, _, _, hF => by omega
  | 0, r, F + 1, hr, _, _ => by
    show bX5_rests_2 (fX5_rests_2 F) 101 (nI i) (nI j) (nI r) (lay M) = _
    unfold bX5_rests_2
    rw [r_101_0, Option.bind_some, bi1 brd_102, Option.bind_some, hD, if_pos (nI_lt (by omega) (by omega))]
    rfl
  | m + 1, r, F + 1, hr, hr1, hF => by
    have hp : ∀ y x, 1 ≤ y → y ≤ 6 → 1 ≤ x → x ≤ 6 → pI y x < 36 := fun y x _ _ _ _ => by unfold pI; omega
    show bX5_rests_2 (fX5_rests_2 F) 101 (nI i) (nI j) (nI r) (lay M) = _
    unfold bX5_rests_2 fX5_rests_59
    rw [r_101_0, Option.bind_some, bi1 brd_102, Option.bind_some, hD, if_neg (show ¬ nI d < nI r from by rw [t_lt, nI_toInt (by omega), nI_toInt (by omega)]; omega)]
    simp only [r_101_4, r_101_5, Option.bind_some, c_pair (i := r) (j := j) hr1 (by omega) hj1 (by omega), c_pair (i := i) (j := j) hi1 (by omega) hj1 (by omega), c_pair (i := i) (j := r) hi1 (by omega) hr1 (by omega), gx_bd_some, aI_lay 36 (show isA 118 0 36 = true by decide) (by decide) (hp r j hr1 (by omega) hj1 (by omega)) (by decide), aI_lay 36 (show isA 118 0 36 = true by decide) (by decide) (hp i j hi1 (by omega) hj1 (by omega)) (by decide), aI_lay 36 (show isA 119 0 36 = true by decide) (by decide) (hp i j hi1 (by omega) hj1 (by omega)) (by decide), aI_lay 36 (show isA 119 0 36 = true by decide) (by decide) (hp i r hi1 (by omega) hr1 (by omega)) (by decide)]
    rw [(hG r j hr1 (by omega) hj1 hj).1, (hG i j hi1 hi hj1 hj).1, (hG i r hi1 hi hr1 (by omega)).2, (hG i j hi1 hi hj1 hj).2, nI_1]
    have ih := c_rests_2 (i := i) (j := j) hd hi1 hi hj1 hj hD hG m (r + 1) F (by omega) (by omega) (by omega)
    unfold al
    by_cases c1 : G i j < G r j
    · rw [if_pos c1, show pR G H i j r = false from decide_eq_false (fun z => z.1 c1), Bool.false_and]
      rfl
    · rw [if_neg c1]
      by_cases c2 : H i r ≤ H i j
      · rw [if_pos c2, show pR G H i j r = true from decide_eq_true ⟨c1, c2⟩, Bool.true_and]
        exact ih
      · rw [if_neg c2, show pR G H i j r = false from decide_eq_false (fun z => c2 z.2), Bool.false_and]
        rfl
theorem r_rests_5 {M : mm} {i j : Nat} (hd : d ≤ 6) (hi1 : 1 ≤ i) (hi : i ≤ d) (hj1 : 1 ≤ j) (hj : j ≤ d) (hD : M.1 123 1 = nI d) (hG : ∀ y x, 1 ≤ y → y ≤ d → 1 ≤ x → x ≤ d → M.1 128 (7 * y + x) = G y x ∧ M.1 129 (7 * y + x) = H y x) : ∀ (m r F : Nat) (s : Bool), r + m = d + 1 → 1 ≤ r → m < F → fX11_rests_5 F 122 (nI i) (nI j) (bI s) (nI r) (lay M) = some (bI (s && al (pR G H i j) m r), lay M)
  | m, r, 0, s, _, _, hF => by omega
  | 0, r, F + 1, s, hr, _, _ => by
    show bX11_rests_5 (fX11_rests_5 F) 122 (nI i) (nI j) (bI s) (nI r) (lay M) = _
    unfold bX11_rests_5
    rw [r_122_0, Option.bind_some, show gx_aI 0 (lay M) 123 1 = some (M.1 123 1) from ra (k := 1) (by omega), Option.bind_some, hD, if_pos (nI_lt (by omega) (by omega)), ret_bI, show al (pR G H i j) 0 r = true from rfl, Bool.and_true]
  | m + 1, r, F + 1, s, hr, hr1, hF => by
    have m7 : ∀ y x, (7 : Int32) * nI y + nI x = nI (7 * y + x) := fun y x => by rw [show (7 : Int32) = nI 7 from rfl, pk_mul, nI_add]
    have ih := fun s => r_rests_5 (i := i) (j := j) hd hi1 hi hj1 hj hD hG m (r + 1) F s (by omega) (by omega) (by omega)
    have ih0 : fX11_rests_5 F 122 (nI i) (nI j) 0 (nI (r + 1)) (lay M) = some (bI false, lay M) := by have := ih false; rwa [Bool.false_and] at this
    have ih1 : fX11_rests_5 F 122 (nI i) (nI j) 1 (nI (r + 1)) (lay M) = some (bI (al (pR G H i j) m (r + 1)), lay M) := by have := ih true; rwa [Bool.true_and] at this
    show bX11_rests_5 (fX11_rests_5 F) 122 (nI i) (nI j) (bI s) (nI r) (lay M) = _
    unfold bX11_rests_5 fX11_rests_76 fX11_rests_77
    rw [r_122_0, Option.bind_some, show gx_aI 0 (lay M) 123 1 = some (M.1 123 1) from ra (k := 1) (by omega), Option.bind_some, hD, if_neg (show ¬ nI d < nI r from by rw [t_lt, nI_toInt (by omega), nI_toInt (by omega)]; omega), nI_1]
    cases s with
    | false => rw [if_pos (show bI false = 0 from rfl), ih0, Bool.false_and]
    | true =>
      rw [if_neg (show ¬ bI true = 0 by decide), Bool.true_and]
      simp only [r_122_11, r_122_12, Option.bind_some, m7, aI_lay 49 (show isA 128 0 49 = true by decide) (by decide) (show 7 * r + j < 49 by omega) (by decide), aI_lay 49 (show isA 128 0 49 = true by decide) (by decide) (show 7 * i + j < 49 by omega) (by decide), aI_lay 49 (show isA 129 0 49 = true by decide) (by decide) (show 7 * i + j < 49 by omega) (by decide), aI_lay 49 (show isA 129 0 49 = true by decide) (by decide) (show 7 * i + r < 49 by omega) (by decide)]
      rw [(hG r j hr1 (by omega) hj1 hj).1, (hG i j hi1 hi hj1 hj).1, (hG i r hi1 hi hr1 (by omega)).2, (hG i j hi1 hi hj1 hj).2]
      show _ = some (bI (pR G H i j r && al (pR G H i j) m (r + 1)), lay M)
      by_cases c1 : G i j < G r j
      · rw [if_pos c1, show pR G H i j r = false from decide_eq_false (fun z => z.1 c1), Bool.false_and, ih0]
      · rw [if_neg c1]
        by_cases c2 : H i r ≤ H i j
        · rw [if_neg (show ¬ H i j < H i r from by rw [t_le] at c2; rw [t_lt]; omega), show pR G H i j r = true from decide_eq_true ⟨c1, c2⟩, Bool.true_and, ih1]
        · rw [if_pos (show H i j < H i r from by rw [t_le] at c2; rw [t_lt]; omega), show pR G H i j r = false from decide_eq_false (fun z => c2 z.2), Bool.false_and, ih0]
theorem c_rests {M : mm} {i j : Nat} (hd : d ≤ 6) (hi1 : 1 ≤ i) (hi : i ≤ d) (hj1 : 1 ≤ j) (hj : j ≤ d) (hD : M.1 102 1 = nI d) (hG : ∀ y x, 1 ≤ y → y ≤ d → 1 ≤ x → x ≤ d → M.1 118 (pI y x) = G y x ∧ M.1 119 (pI y x) = H y x) : fX5_rests 101 (nI i) (nI j) (lay M) = some (bI (al (pR G H i j) d 1), lay M) := by
  unfold fX5_rests
  rw [o_101, Option.bind_some]
  exact c_rests_2 hd hi1 hi hj1 hj hD hG d 1 gx_N (by omega) (by omega) (by unfold gx_N; omega)
theorem r_rests {M : mm} {i j : Nat} (hd : d ≤ 6) (hi1 : 1 ≤ i) (hi : i ≤ d) (hj1 : 1 ≤ j) (hj : j ≤ d) (hD : M.1 123 1 = nI d) (hG : ∀ y x, 1 ≤ y → y ≤ d → 1 ≤ x → x ≤ d → M.1 128 (7 * y + x) = G y x ∧ M.1 129 (7 * y + x) = H y x) : fX11_rests 122 (nI i) (nI j) (lay M) = some (bI (al (pR G H i j) d 1), lay M) := by
  have e := r_rests_5 (i := i) (j := j) hd hi1 hi hj1 hj hD hG d 1 gx_N true (by omega) (by omega) (by unfold gx_N; omega)
  rw [Bool.true_and] at e
  unfold fX11_rests
  rw [o_122, Option.bind_some]
  exact e
end RS
/-- the pair that rests as the k-th, or how many rest -/
def inJ (R : Nat → Nat → Bool) (k : Int32) (i : Nat) : Nat → Nat → Nat → Nat ⊕ Nat
  | 0, _, c => .inr c
  | m + 1, j, c => if R i j = true then (if nI c = k then .inl (10 * i + j) else inJ R k i m (j + 1) (c + 1)) else inJ R k i m (j + 1) c
def inI (R : Nat → Nat → Bool) (k : Int32) (d : Nat) : Nat → Nat → Nat → Nat ⊕ Nat
  | 0, _, c => .inr c
  | m + 1, i, c => match inJ R k i d 1 c with
    | .inl x => .inl x
    | .inr c' => inI R k d m (i + 1) c'
theorem inJ_le {R : Nat → Nat → Bool} {k : Int32} {i : Nat} : ∀ (m j c c' : Nat), inJ R k i m j c = .inr c' → c' ≤ c + m
  | 0, _, c, c', h => by cases h; omega
  | m + 1, j, c, c', h => by
    unfold inJ at h
    split at h
    · split at h
      · cases h
      · have := inJ_le m (j + 1) (c + 1) c' h; omega
    · have := inJ_le m (j + 1) c c' h; omega
theorem inJ_lt {R : Nat → Nat → Bool} {k : Int32} {i : Nat} : ∀ (m j c x : Nat), inJ R k i m j c = .inl x → x < 10 * i + j + m
  | 0, _, c, x, h => by cases h
  | m + 1, j, c, x, h => by
    unfold inJ at h
    split at h
    · split at h
      · cases h; omega
      · have := inJ_lt m (j + 1) (c + 1) x h; omega
    · have := inJ_lt m (j + 1) c x h; omega
theorem inI_lt {R : Nat → Nat → Bool} {k : Int32} : ∀ (m i c x : Nat), inI R k d m i c = .inl x → x < 10 * (i + m) + d + 1
  | 0, _, c, x, h => by cases h
  | m + 1, i, c, x, h => by
    unfold inI at h
    cases hq : inJ R k i d 1 c with
    | inl y => rw [hq] at h; cases h; have := inJ_lt _ _ _ _ hq; omega
    | inr c' => rw [hq] at h; have := inI_lt m (i + 1) c' x h; omega
theorem bI_0 {x : Bool} : bI x = 0 ↔ ¬ x = true := by cases x <;> decide
section CT
variable {R : Nat → Nat → Bool}
theorem c_pair_18 {M : mm} {i : Nat} {k : Int32} (hd : d ≤ 6) (hi1 : 1 ≤ i) (hi : i ≤ d) (hD : M.1 102 1 = nI d) (hR : ∀ i j, 1 ≤ i → i ≤ d → 1 ≤ j → j ≤ d → fX5_rests 101 (nI i) (nI j) (lay M) = some (bI (R i j), lay M)) (k4 : Nat → Int32 → Int32 → Int32 → gx_H → Option (Int32 × gx_H)) : ∀ (m j F c : Nat), j + m = d + 1 → 1 ≤ j → m < F → fX5_restingPair_18 k4 F 101 k (nI c) (nI i) (nI j) (lay M) = match inJ R k i m j c with
    | .inl x => some (nI x, lay M)
    | .inr c' => k4 101 k (nI c') (nI (i + 1)) (lay M)
  | m, j, 0, c, _, _, hF => by omega
  | 0, j, F + 1, c, hj, _, _ => by
    show bX5_restingPair_18 k4 (fX5_restingPair_18 k4 F) 101 k (nI c) (nI i) (nI j) (lay M) = _
    unfold bX5_restingPair_18
    rw [r_101_0, Option.bind_some, bi1 brd_102, Option.bind_some, hD, if_pos (nI_lt (by omega) (by omega)), nI_1]
    rfl
  | m + 1, j, F + 1, c, hj, hj1, hF => by
    show bX5_restingPair_18 k4 (fX5_restingPair_18 k4 F) 101 k (nI c) (nI i) (nI j) (lay M) = _
    unfold bX5_restingPair_18 fX5_restingPair_56 inJ
    rw [r_101_0, Option.bind_some, bi1 brd_102, Option.bind_some, hD, if_neg (show ¬ nI d < nI j from by rw [t_lt, nI_toInt (by omega), nI_toInt (by omega)]; omega), hR i j hi1 hi hj1 (by omega), gx_bd_some, nI_1, nI_1]
    by_cases z : R i j = true
    · rw [if_neg (fun y => bI_0.mp y z), if_pos z]
      by_cases z2 : nI c = k
      · rw [if_pos z2, if_pos z2, show (10 : Int32) * nI i + nI j = nI (10 * i + j) from by rw [show (10 : Int32) = nI 10 from rfl, pk_mul, nI_add]]
      · rw [if_neg z2, if_neg z2]
        exact c_pair_18 hd hi1 hi hD hR k4 m (j + 1) F (c + 1) (by omega) (by omega) (by omega)
    · rw [if_pos (bI_0.mpr z), if_neg z]
      exact c_pair_18 hd hi1 hi hD hR k4 m (j + 1) F c (by omega) (by omega) (by omega)
theorem c_pair_4 {M : mm} {k : Int32} (hd : d ≤ 6) (hD : M.1 102 1 = nI d) (hR : ∀ i j, 1 ≤ i → i ≤ d → 1 ≤ j → j ≤ d → fX5_rests 101 (nI i) (nI j) (lay M) = some (bI (R i j), lay M)) : ∀ (m i F c : Nat), i + m = d + 1 → 1 ≤ i → m < F → fX5_restingPair_4 F 101 k (nI c) (nI i) (lay M) = some (match inI R k d m i c with
    | .inl x => nI x
    | .inr _ => -1, lay M)
  | m, i, 0, c, _, _, hF => by omega
  | 0, i, F + 1, c, hi, _, _ => by
    show bX5_restingPair_4 (fX5_restingPair_4 F) 101 k (nI c) (nI i) (lay M) = _
    unfold bX5_restingPair_4
    rw [r_101_0, Option.bind_some, bi1 brd_102, Option.bind_some, hD, if_pos (nI_lt (by omega) (by omega))]
    rfl
  | m + 1, i, F + 1, c, hi, hi1, hF => by
    show bX5_restingPair_4 (fX5_restingPair_4 F) 101 k (nI c) (nI i) (lay M) = _
    have e := c_pair_18 (M := M) (i := i) (k := k) (R := R) hd hi1 (by omega) hD hR (fX5_restingPair_4 F) d 1 gx_N c (by omega) (by omega) (by unfold gx_N; omega)
    have e' : fX5_restingPair_18 (fX5_restingPair_4 F) gx_N 101 k (nI c) (nI i) 1 (lay M) = _ := e
    unfold bX5_restingPair_4 inI
    rw [r_101_0, Option.bind_some, bi1 brd_102, Option.bind_some, hD, if_neg (show ¬ nI d < nI i from by rw [t_lt, nI_toInt (by omega), nI_toInt (by omega)]; omega), e']
    cases inJ R k i d 1 c with
    | inl x => rfl
    | inr c' => exact c_pair_4 hd hD hR m (i + 1) F c' (by omega) (by omega) (by omega)
theorem ne_m1 {c : Nat} (h : c < 2147483648) : ¬ nI c = -1 := lkI_some h
theorem c_pairs_17 {M : mm} {i : Nat} (hd : d ≤ 6) (hi1 : 1 ≤ i) (hi : i ≤ d) (hD : M.1 102 1 = nI d) (hR : ∀ i j, 1 ≤ i → i ≤ d → 1 ≤ j → j ≤ d → fX5_rests 101 (nI i) (nI j) (lay M) = some (bI (R i j), lay M)) (k4 : Nat → Int32 → Int32 → gx_H → Option (Int32 × gx_H)) : ∀ (m j F c : Nat), j + m = d + 1 → 1 ≤ j → m < F → c + m < 1000 → ∃ c', inJ R (-1) i m j c = .inr c' ∧ fX5_restingPairs_17 k4 F 101 (nI c) (nI i) (nI j) (lay M) = k4 101 (nI c') (nI (i + 1)) (lay M)
  | m, j, 0, c, _, _, hF, _ => by omega
  | 0, j, F + 1, c, hj, _, _, _ => by
    show ∃ c', _ ∧ bX5_restingPairs_17 k4 (fX5_restingPairs_17 k4 F) 101 (nI c) (nI i) (nI j) (lay M) = _
    unfold bX5_restingPairs_17
    rw [r_101_0, Option.bind_some, bi1 brd_102, Option.bind_some, hD, if_pos (nI_lt (by omega) (by omega)), nI_1]
    exact ⟨c, rfl, rfl⟩
  | m + 1, j, F + 1, c, hj, hj1, hF, hc => by
    show ∃ c', _ ∧ bX5_restingPairs_17 k4 (fX5_restingPairs_17 k4 F) 101 (nI c) (nI i) (nI j) (lay M) = _
    unfold bX5_restingPairs_17 fX5_restingPairs_40 inJ
    rw [r_101_0, Option.bind_some, bi1 brd_102, Option.bind_some, hD, if_neg (show ¬ nI d < nI j from by rw [t_lt, nI_toInt (by omega), nI_toInt (by omega)]; omega), hR i j hi1 hi hj1 (by omega), gx_bd_some, nI_1, nI_1]
    by_cases z : R i j = true
    · rw [if_neg (fun y => bI_0.mp y z), if_pos z, if_neg (ne_m1 (by omega))]
      exact c_pairs_17 hd hi1 hi hD hR k4 m (j + 1) F (c + 1) (by omega) (by omega) (by omega) (by omega)
    · rw [if_pos (bI_0.mpr z), if_neg z]
      exact c_pairs_17 hd hi1 hi hD hR k4 m (j + 1) F c (by omega) (by omega) (by omega) (by omega)
theorem c_pairs_4 {M : mm} (hd : d ≤ 6) (hD : M.1 102 1 = nI d) (hR : ∀ i j, 1 ≤ i → i ≤ d → 1 ≤ j → j ≤ d → fX5_rests 101 (nI i) (nI j) (lay M) = some (bI (R i j), lay M)) : ∀ (m i F c : Nat), i + m = d + 1 → 1 ≤ i → m < F → c + 10 * m < 100 → ∃ c', inI R (-1) d m i c = .inr c' ∧ fX5_restingPairs_4 F 101 (nI c) (nI i) (lay M) = some (nI c', lay M)
  | m, i, 0, c, _, _, hF, _ => by omega
  | 0, i, F + 1, c, hi, _, _, _ => by
    show ∃ c', _ ∧ bX5_restingPairs_4 (fX5_restingPairs_4 F) 101 (nI c) (nI i) (lay M) = _
    unfold bX5_restingPairs_4
    rw [r_101_0, Option.bind_some, bi1 brd_102, Option.bind_some, hD, if_pos (nI_lt (by omega) (by omega))]
    exact ⟨c, rfl, rfl⟩
  | m + 1, i, F + 1, c, hi, hi1, hF, hc => by
    show ∃ c', _ ∧ bX5_restingPairs_4 (fX5_restingPairs_4 F) 101 (nI c) (nI i) (lay M) = _
    obtain ⟨c1, e0, e⟩ := c_pairs_17 (M := M) (i := i) (R := R) hd hi1 (by omega) hD hR (fX5_restingPairs_4 F) d 1 gx_N c (by omega) (by omega) (by unfold gx_N; omega) (by omega)
    have e' : fX5_restingPairs_17 (fX5_restingPairs_4 F) gx_N 101 (nI c) (nI i) 1 (lay M) = _ := e
    have hl := inJ_le _ _ _ _ e0
    unfold bX5_restingPairs_4 inI
    rw [r_101_0, Option.bind_some, bi1 brd_102, Option.bind_some, hD, if_neg (show ¬ nI d < nI i from by rw [t_lt, nI_toInt (by omega), nI_toInt (by omega)]; omega), e', e0]
    exact c_pairs_4 hd hD hR m (i + 1) F c1 (by omega) (by omega) (by omega) (by omega)
theorem r_choice_59 {M : mm} {i : Nat} {k : Int32} (hd : d ≤ 6) (hi1 : 1 ≤ i) (hi : i ≤ d) (hD : M.1 123 1 = nI d) (hR : ∀ i j, 1 ≤ i → i ≤ d → 1 ≤ j → j ≤ d → fX11_rests 122 (nI i) (nI j) (lay M) = some (bI (R i j), lay M)) (k45 : Nat → Int32 → Int32 → Int32 → gx_H → Option (Int32 × gx_H)) : ∀ (m j F c : Nat), j + m = d + 1 → 1 ≤ j → m < F → fX11_choice_59 k45 F 122 k (nI c) (nI i) (nI j) (lay M) = match inJ R k i m j c with
    | .inl x => some (nI x, lay M)
    | .inr c' => k45 122 k (nI c') (nI (i + 1)) (lay M)
  | m, j, 0, c, _, _, hF => by omega
  | 0, j, F + 1, c, hj, _, _ => by
    show bX11_choice_59 k45 (fX11_choice_59 k45 F) 122 k (nI c) (nI i) (nI j) (lay M) = _
    unfold bX11_choice_59
    rw [r_122_0, Option.bind_some, show gx_aI 0 (lay M) 123 1 = some (M.1 123 1) from ra (k := 1) (by omega), Option.bind_some, hD, if_pos (nI_lt (by omega) (by omega)), nI_1]
    rfl
  | m + 1, j, F + 1, c, hj, hj1, hF => by
    show bX11_choice_59 k45 (fX11_choice_59 k45 F) 122 k (nI c) (nI i) (nI j) (lay M) = _
    unfold bX11_choice_59 fX11_choice_99 inJ
    rw [r_122_0, Option.bind_some, show gx_aI 0 (lay M) 123 1 = some (M.1 123 1) from ra (k := 1) (by omega), Option.bind_some, hD, if_neg (show ¬ nI d < nI j from by rw [t_lt, nI_toInt (by omega), nI_toInt (by omega)]; omega), hR i j hi1 hi hj1 (by omega), gx_bd_some, nI_1, nI_1]
    by_cases z : R i j = true
    · rw [if_neg (fun y => bI_0.mp y z), if_pos z]
      by_cases z2 : nI c = k
      · rw [if_pos z2, if_pos z2, show (10 : Int32) * nI i + nI j = nI (10 * i + j) from by rw [show (10 : Int32) = nI 10 from rfl, pk_mul, nI_add]]
      · rw [if_neg z2, if_neg z2]
        exact r_choice_59 hd hi1 hi hD hR k45 m (j + 1) F (c + 1) (by omega) (by omega) (by omega)
    · rw [if_pos (bI_0.mpr z), if_neg z]
      exact r_choice_59 hd hi1 hi hD hR k45 m (j + 1) F c (by omega) (by omega) (by omega)
theorem r_choice_45 {M : mm} {k : Int32} (hd : d ≤ 6) (hD : M.1 123 1 = nI d) (hR : ∀ i j, 1 ≤ i → i ≤ d → 1 ≤ j → j ≤ d → fX11_rests 122 (nI i) (nI j) (lay M) = some (bI (R i j), lay M)) : ∀ (m i F c : Nat), i + m = d + 1 → 1 ≤ i → m < F → fX11_choice_45 F 122 k (nI c) (nI i) (lay M) = some (match inI R k d m i c with
    | .inl x => nI x
    | .inr c' => if k = -1 then nI c' else -5, lay M)
  | m, i, 0, c, _, _, hF => by omega
  | 0, i, F + 1, c, hi, _, _ => by
    show bX11_choice_45 (fX11_choice_45 F) 122 k (nI c) (nI i) (lay M) = _
    unfold bX11_choice_45 fX11_choice_123
    rw [r_122_0, Option.bind_some, show gx_aI 0 (lay M) 123 1 = some (M.1 123 1) from ra (k := 1) (by omega), Option.bind_some, hD, if_pos (nI_lt (by omega) (by omega))]
    show _ = some (if k = -1 then nI c else -5, lay M)
    by_cases z : k = -1
    · rw [if_pos z, if_pos z]
    · rw [if_neg z, if_neg z]
  | m + 1, i, F + 1, c, hi, hi1, hF => by
    show bX11_choice_45 (fX11_choice_45 F) 122 k (nI c) (nI i) (lay M) = _
    have e := r_choice_59 (M := M) (i := i) (k := k) (R := R) hd hi1 (by omega) hD hR (fX11_choice_45 F) d 1 gx_N c (by omega) (by omega) (by unfold gx_N; omega)
    have e' : fX11_choice_59 (fX11_choice_45 F) gx_N 122 k (nI c) (nI i) 1 (lay M) = _ := e
    unfold bX11_choice_45 inI
    rw [r_122_0, Option.bind_some, show gx_aI 0 (lay M) 123 1 = some (M.1 123 1) from ra (k := 1) (by omega), Option.bind_some, hD, if_neg (show ¬ nI d < nI i from by rw [t_lt, nI_toInt (by omega), nI_toInt (by omega)]; omega), e']
    cases inJ R k i d 1 c with
    | inl x => rfl
    | inr c' => exact r_choice_45 hd hD hR m (i + 1) F c' (by omega) (by omega) (by omega)
end CT
end CH
theorem op_choice (a b c : Int32) : Op (fX10_choice 0 a b c) (fX11_choice 122 a b c) := by
  intro M h
  obtain ⟨n, np, hs, q, g⟩ := h.gm
  have hn6 := g.n6
  have hp4 := g.np6
  unfold fX10_choice fX11_choice fX10_choice_14 fX11_choice_26 fX10_choice_71
  simp only [o_0, o_122, r_0_0, r_0_4, r_1_0, f10_unlike, f11_isPlayer, Option.bind_some, gx_bd_some, f10_ten, f11_bad']
  have eB : (badC M).1 123 = M.1 123 := by unfold badC; rw [sI_o (by omega)]
  by_cases c1 : 0 ≤ a ∧ a ≤ M.1 2 3 - 1
  case neg =>
    rw [b2_f (fun z => c1 z.1), if_pos rfl]
    refine ⟨_, badC M, badR (badC M), rfl, ?_, h.bad⟩
    rw [eB, b2_f (fun z => c1 ((g.pl _).mp z)), if_pos rfl]
  have c1' := (g.pl _).mpr c1
  by_cases c2 : 0 ≤ b ∧ b ≤ M.1 2 3 - 1
  case neg =>
    rw [b2_f (fun z => c2 z.2.1), if_pos rfl]
    refine ⟨_, badC M, badR (badC M), rfl, ?_, h.bad⟩
    rw [eB, b2_t c1', if_neg (by decide), b2_f (fun z => c2 ((g.pl _).mp z)), if_pos rfl]
  have c2' := (g.pl _).mpr c2
  by_cases c3 : a = b
  case pos =>
    rw [b2_f (fun z => z.2.2 c3), if_pos rfl]
    refine ⟨_, badC M, badR (badC M), rfl, ?_, h.bad⟩
    rw [eB, b2_t c1', if_neg (by decide), b2_t c2', if_neg (by decide), if_pos c3]
  rw [b2_t ⟨c1, c2, c3⟩, if_neg (by decide)]
  by_cases c4 : -1 ≤ c
  case neg =>
    rw [if_neg c4]
    refine ⟨_, badC M, badR (badC M), rfl, ?_, h.bad⟩
    rw [eB, b2_t c1', if_neg (by decide), b2_t c2', if_neg (by decide), if_neg c3, if_neg c4]
  rw [if_pos c4]
  obtain ⟨i, hi, rfl⟩ := g.isP c1
  obtain ⟨j, hj, rfl⟩ := g.isP c2
  have hD := g.D
  obtain ⟨d, hd, ed⟩ := bn_nI (x := M.1 2 1) (n := 6) ⟨by have := hD.1; omega, hD.2⟩
  have hd1 : 2 ≤ d := by have := hD.1; rw [ed, nI_toInt (by omega)] at this; omega
  obtain ⟨M1, a1, a2, a3, a4, a5, a6, a7, a8⟩ := c_out g.1
  generalize hV : VC M1.1 102 = V at a3 a4
  have hV1 : V 1 = nI d := by rw [a4.2.1, VC_0 _ _ (by omega)]; exact ed
  obtain ⟨Ma, b1, b2, b3, b4, b5⟩ := c_weigh_11 (a := i) (b := j) (n := n) (np := np) (V := V) hd1 hd hi hj a3 hV1 d 1 gx_N M1 (by omega) (by omega) (by unfold gx_N; omega) hV (by rw [a2.1]; exact h.2.2.2.2.2.2.1)
  have kO : fr (fun c => 102 ≤ c ∧ c < 120) M Ma := ⟨b3.1.trans a2.1, fun x hx => by rw [b3.2 x (by omega), a2.2 x (fun z => by unfold inB at z; omega)]⟩
  have b1' : fX5_weighPairs_11 gx_N 101 (nI i) (nI j) 1 (lay M1) = some ((), lay Ma) := b1
  have hcl : fX5_weighPairs 101 2 (nI i) (nI j) (lay M) = some ((), lay Ma) := by
    unfold fX5_weighPairs
    rw [o_101, Option.bind_some, r_101_0, Option.bind_some, a1, gx_bd_some, b1']
  have e123 : Ma.1 123 = M.1 123 := kO.2 123 (by omega)
  have h1 := h.kp (kO.kp (fun a z => by omega))
  have he : eqv n np V (VR Ma.1 0) := by
    have : VR Ma.1 0 = VR M.1 0 := by unfold VR; rw [e123]
    rw [this]
    exact eqv_tr a4 g.2.1
  have hD1 : Ma.1 123 1 = nI d := by rw [e123, g.w1]; exact ed
  have hDc : Ma.1 102 1 = nI d := by rw [← VC_0 Ma.1 102 (by omega), b2]; exact hV1
  obtain ⟨Mb, x1, x2, x3, x4⟩ := r_gains_2 (M0 := Ma) (a := i) (b := j) (n := n) (np := np) (V := V) hd1 hd hi hj a3 hD1 he d 1 gx_N Ma (by omega) (by omega) (by unfold gx_N; omega) frY.rf
  have x1' : fX11_gains 122 (nI i) (nI j) (lay Ma) = some ((), lay Mb) := by
    unfold fX11_gains
    rw [o_122, Option.bind_some]
    exact x1
  generalize hG : (fun y x => gn (W2 n i j V y x) i j y x) = G
  generalize hH : (fun y x => gn (W2 n i j V y x) j i y x) = H
  have cG : ∀ y x, 1 ≤ y → y ≤ d → 1 ≤ x → x ≤ d → Ma.1 118 (pI y x) = G y x ∧ Ma.1 119 (pI y x) = H y x := fun y x q1 q2 q3 q4 => by
    rw [← hG, ← hH]; exact b5 y x q1 q2 q3 q4
  have rG : ∀ y x, 1 ≤ y → y ≤ d → 1 ≤ x → x ≤ d → Mb.1 128 (7 * y + x) = G y x ∧ Mb.1 129 (7 * y + x) = H y x := fun y x q1 q2 q3 q4 => by
    rw [← hG, ← hH]; exact x4 y x q1 q2 q3 q4
  have cR : ∀ y x, 1 ≤ y → y ≤ d → 1 ≤ x → x ≤ d → fX5_rests 101 (nI y) (nI x) (lay Ma) = some (bI ((fun y x => al (pR G H y x) d 1) y x), lay Ma) := fun y x q1 q2 q3 q4 => c_rests hd q1 q2 q3 q4 hDc cG
  have hDb : Mb.1 123 1 = nI d := by rw [x2.2.2 1 (by omega)]; exact hD1
  have rR : ∀ y x, 1 ≤ y → y ≤ d → 1 ≤ x → x ≤ d → fX11_rests 122 (nI y) (nI x) (lay Mb) = some (bI ((fun y x => al (pR G H y x) d 1) y x), lay Mb) := fun y x q1 q2 q3 q4 => r_rests hd q1 q2 q3 q4 hDb rG
  generalize (fun y x => al (pR G H y x) d 1) = R at cR rR
  have y1 := r_choice_45 (M := Mb) (k := c) (R := R) hd hDb rR d 1 gx_N 0 (by omega) (by omega) (by unfold gx_N; omega)
  have y1' : fX11_choice_45 gx_N 122 c 0 1 (lay Mb) = _ := y1
  rw [hcl, gx_bd_some]
  simp only [r_0_0, r_0_4, r_1_0, Option.bind_some]
  refine ⟨_, Ma, Mb, ?_, by rw [e123, b2_t c1', if_neg (by decide), b2_t c2', if_neg (by decide), if_neg c3, if_pos c4, x1', gx_bd_some, y1'], h1.kp (frY_kp x2)⟩
  unfold fX5_restingPairs fX5_restingPair
  rw [o_101, Option.bind_some, Option.bind_some]
  by_cases z : c = -1
  · subst z
    obtain ⟨c', w1, w2⟩ := c_pairs_4 (M := Ma) (R := R) hd hDc cR d 1 gx_N 0 (by omega) (by omega) (by unfold gx_N; omega) (by omega)
    have w2' : fX5_restingPairs_4 gx_N 101 0 1 (lay Ma) = some (nI c', lay Ma) := w2
    rw [if_pos rfl, w2', gx_bd_some, w1]
    rfl
  · have w2 := c_pair_4 (M := Ma) (k := c) (R := R) hd hDc cR d 1 gx_N 0 (by omega) (by omega) (by unfold gx_N; omega)
    have w2' : fX5_restingPair_4 gx_N 101 c 0 1 (lay Ma) = _ := w2
    rw [if_neg z, w2', gx_bd_some]
    cases hq : inI R c d d 1 0 with
    | inl x =>
      have hx := inI_lt _ _ _ _ hq
      exact if_neg (show ¬ nI x = -1 from ne_m1 (by omega))
    | inr c' =>
      show (if (-1 : Int32) = -1 then some (-5, lay Ma) else some (-1, lay Ma)) = some (if c = -1 then nI c' else -5, lay Ma)
      rw [if_neg z, if_pos rfl]
