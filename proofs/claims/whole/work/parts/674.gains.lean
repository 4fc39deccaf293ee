/-! choice: what each pair of throws brings -/
section GN
variable {d n np a b : Nat} {V : Nat → Int32}
def gn (W : Nat → Int32) (x y i j : Nat) : Int32 := ((if W (32 + x) = W 0 then 10 else 0) + (if W (32 + x) ≤ W (32 + y) then 0 else 1)) - (if i = j then 3 else 0)
def sm01 (i j : Nat) : Int32 := if i = j then 1 else 0
def pI (i j : Nat) : Nat := (i - 1) * 6 + j - 1
def W2 (n a b : Nat) (V : Nat → Int32) (i j : Nat) : Nat → Int32 := one n b (one n a V i) j
theorem eqv_gn {W W' : Nat → Int32} {x y i j : Nat} (h : eqv n np W W') (hx : x < np) (hy : y < np) : gn W x y i j = gn W' x y i j := by
  unfold gn
  rw [h.1, (h.2.2.2.2.2 x hx).2.1, (h.2.2.2.2.2 y hy).2.1]
theorem c_gain {M : mm} {x y i j : Nat} (hx : x < 4) (hy : y < 4) : fX5_gain 101 (nI x) (nI y) (sm01 i j) (lay M) = some (gn (VC M.1 102) x y i j, lay M) := by
  unfold fX5_gain fX5_gain_17 fX5_gain_43 fX5_gain_56 gn sm01
  rw [o_101, Option.bind_some, r_101_0, Option.bind_some, c_home hx, gx_bd_some]
  simp only [r_101_0, br9 brd_102, ba6 brd_102 hx, ba6 brd_102 hy, Option.bind_some]
  rw [← VC_6 M.1 102 hx, ← VC_6 M.1 102 hy]
  by_cases c1 : VC M.1 102 (32 + x) = VC M.1 102 0
  · rw [b2_t c1, if_neg (by decide), if_pos c1]
    by_cases c2 : VC M.1 102 (32 + x) ≤ VC M.1 102 (32 + y)
    · rw [if_pos c2, if_pos c2]
      by_cases c3 : i = j
      · rw [if_pos c3, if_pos c3, if_neg (by decide)]; rfl
      · rw [if_neg c3, if_neg c3, if_pos rfl]; rfl
    · rw [if_neg c2, if_neg c2]
      by_cases c3 : i = j
      · rw [if_pos c3, if_pos c3, if_neg (by decide)]
      · rw [if_neg c3, if_neg c3, if_pos rfl]; rfl
  · rw [b2_f c1, if_pos rfl, if_neg c1]
    by_cases c2 : VC M.1 102 (32 + x) ≤ VC M.1 102 (32 + y)
    · rw [if_pos c2, if_pos c2]
      by_cases c3 : i = j
      · rw [if_pos c3, if_pos c3, if_neg (by decide)]; rfl
      · rw [if_neg c3, if_neg c3, if_pos rfl]; rfl
    · rw [if_neg c2, if_neg c2]
      by_cases c3 : i = j
      · rw [if_pos c3, if_pos c3, if_neg (by decide)]
      · rw [if_neg c3, if_neg c3, if_pos rfl]; rfl
theorem c_pair {i j : Nat} (hi : 1 ≤ i) (hi6 : i ≤ 6) (hj : 1 ≤ j) (hj6 : j ≤ 6) (h : gx_H) : fX5_pairAt (nI i) (nI j) h = some (nI (pI i j), h) := by
  unfold fX5_pairAt fX5_pairAt_24 fX5_pairAt_25 fX5_pairAt_44 pI
  have w : ∀ x, 1 ≤ x → x ≤ 6 → ((1 : Int32) ≤ nI x ∧ nI x ≤ 6) := fun x h1 h2 => ⟨nI_le (a := 1) h1 (by omega), nI_le (b := 6) h2 (by omega)⟩
  rw [f10_within, gx_bd_some, b2_t (w i hi hi6), if_neg (by decide), f10_within, gx_bd_some, b2_t (w j hj hj6), if_neg (by decide), if_neg (by decide)]
  rw [show nI i - 1 = nI (i - 1) from pk_sub (b := 1) hi, show (6 : Int32) = nI 6 from rfl, pk_mul, nI_add, show nI ((i - 1) * 6 + j) - 1 = nI ((i - 1) * 6 + j - 1) from pk_sub (b := 1) (by omega)]
theorem if01 {α : Type} {i j : Nat} (hi : i < 2147483648) (hj : j < 2147483648) (f : Int32 → α) : (if nI i = nI j then f 1 else f 0) = f (sm01 i j) := by
  unfold sm01
  by_cases c : i = j
  · rw [if_pos c, if_pos (by rw [c])]
  · rw [if_neg c, if_neg (ne_nI hi hj c)]
/-- what weighing keeps -/
def kW (M M' : mm) : Prop := M'.2 = M.2 ∧ ∀ c, c < 102 ∨ c = 110 ∨ (113 ≤ c ∧ c ≠ 118 ∧ c ≠ 119) → M'.1 c = M.1 c
theorem kW.tr {M M' M'' : mm} (h : kW M M') (h2 : kW M' M'') : kW M M'' := ⟨h2.1.trans h.1, fun c hc => (h2.2 c hc).trans (h.2 c hc)⟩
theorem c_weigh_39 {i : Nat} (hd1 : 2 ≤ d) (hd : d ≤ 6) (ha : a < np) (hb : b < np) (hi : 1 ≤ i) (hi6 : i ≤ d) (hok : okV V n np) (h1 : V 1 = nI d) (k11 : Nat → Int32 → Int32 → Int32 → gx_H → Option (Unit × gx_H)) : ∀ (m j F : Nat) (M : mm), j + m = d + 1 → 1 ≤ j → m < F → VC M.1 102 = one n a V i → stoH M V n a i 0 → (∀ j, j < 5 → M.2.2 110 j = some (111 + j)) → ∃ M', fX5_weighPairs_39 k11 F 101 (nI a) (nI b) (nI i) (nI j) (lay M) = k11 101 (nI a) (nI b) (nI (i + 1)) (lay M') ∧ VC M'.1 102 = V ∧ kW M M' ∧ (∀ q, (∀ x, j ≤ x → x ≤ d → q ≠ pI i x) → M'.1 118 q = M.1 118 q ∧ M'.1 119 q = M.1 119 q) ∧ ∀ x, j ≤ x → x ≤ d → M'.1 118 (pI i x) = gn (W2 n a b V i x) a b i x ∧ M'.1 119 (pI i x) = gn (W2 n a b V i x) b a i x
  | m, j, 0, M, _, _, hF, _, _, _ => by omega
  | 0, j, F + 1, M, hj, _, _, hV, hs, hP => by
    have hD : M.1 102 1 = nI d := by rw [← VC_0 M.1 102 (by omega), hV, one_o (by omega)]; exact h1
    obtain ⟨M1, c1, c2, c3⟩ := c_tbh (M := M) (t := 0) hok ha (by omega) hV hs
    show ∃ M', bX5_weighPairs_39 k11 (fX5_weighPairs_39 k11 F) 101 (nI a) (nI b) (nI i) (nI j) (lay M) = _ ∧ _
    unfold bX5_weighPairs_39
    have c1' : fX0_takeBack 102 111 (lay M) = some ((), lay M1) := c1
    rw [r_101_0, Option.bind_some, bi1 brd_102, Option.bind_some, hD, if_pos (nI_lt (by omega) (by omega)), Option.bind_some, r_101_1, Option.bind_some, show gx_aR 3 (lay M) 110 0 = some 111 from ar110 (t := 0) (by omega) hP, Option.bind_some, c1', gx_bd_some, nI_1]
    refine ⟨M1, rfl, c2, ⟨c3.1, fun c hc => c3.2 c (fun z => by unfold inB at z; omega)⟩, fun q _ => ?_, fun x h1 h2 => by omega⟩
    rw [c3.2 118 (fun z => by unfold inB at z; omega), c3.2 119 (fun z => by unfold inB at z; omega)]
    exact ⟨rfl, rfl⟩
  | m + 1, j, F + 1, M, hj, hj1, hF, hV, hs, hP => by
    have h4 := hok.2.2.2.1
    have hokA : okV (one n a V i) n np := okV_one hok ha hi (by omega)
    have hD : M.1 102 1 = nI d := by rw [← VC_0 M.1 102 (by omega), hV, one_o (by omega)]; exact h1
    have hpI : pI i j < 36 := by unfold pI; omega
    show ∃ M', bX5_weighPairs_39 k11 (fX5_weighPairs_39 k11 F) 101 (nI a) (nI b) (nI i) (nI j) (lay M) = _ ∧ _
    unfold bX5_weighPairs_39
    rw [r_101_0, Option.bind_some, bi1 brd_102, Option.bind_some, hD, if_neg (show ¬ nI d < nI j from by rw [t_lt, nI_toInt (by omega), nI_toInt (by omega)]; omega), r_101_1, Option.bind_some, show gx_aR 3 (lay M) 110 1 = some 112 from ar110 (t := 1) (by omega) hP, Option.bind_some]
    obtain ⟨M1, a1, a2, a3, a4⟩ := c_mvh (M := M) (i := b) (r := j) (t := 1) (n := n) (np := np) (by rw [hV]; exact hokA) hb hj1 (by omega) (by omega)
    rw [hV] at a2 a3
    have a1' : fX5_moveUnlessHome 101 (nI b) (nI j) 112 (lay M) = some ((), lay M1) := a1
    rw [a1', gx_bd_some, r_101_4, Option.bind_some, c_pair hi (by omega) hj1 (by omega), gx_bd_some, if01 (by omega) (by omega) (fun s => fX5_weighPairs_90 k11 (fX5_weighPairs_39 k11 F) 101 (nI a) (nI b) (nI i) (nI j) 118 (nI (pI i j)) 101 (nI a) (nI b) s (lay M1))]
    show ∃ M', fX5_weighPairs_90 k11 (fX5_weighPairs_39 k11 F) 101 (nI a) (nI b) (nI i) (nI j) 118 (nI (pI i j)) 101 (nI a) (nI b) (sm01 i j) (lay M1) = _ ∧ _
    unfold fX5_weighPairs_90
    have e1 : VC M1.1 102 = W2 n a b V i j := a2
    rw [c_gain (show a < 4 by omega) (show b < 4 by omega), gx_bd_some, e1, sI_lay 36 (show isA 118 0 36 = true by decide) (by decide) hpI (by decide), Option.bind_some, r_101_5, Option.bind_some, c_pair hi (by omega) hj1 (by omega), gx_bd_some]
    generalize hM2 : sI M1 118 (pI i j) (gn (W2 n a b V i j) a b i j) = M2
    have e2 : VC M2.1 102 = W2 n a b V i j := by
      rw [← hM2]
      show VC (up2 M1.1 118 _ _) 102 = _
      rw [VC_out _ _ (by omega)]; exact e1
    rw [if01 (by omega) (by omega) (fun s => fX5_weighPairs_120 k11 (fX5_weighPairs_39 k11 F) 101 (nI a) (nI b) (nI i) (nI j) 119 (nI (pI i j)) 101 (nI b) (nI a) s (lay M2))]
    show ∃ M', fX5_weighPairs_120 k11 (fX5_weighPairs_39 k11 F) 101 (nI a) (nI b) (nI i) (nI j) 119 (nI (pI i j)) 101 (nI b) (nI a) (sm01 i j) (lay M2) = _ ∧ _
    unfold fX5_weighPairs_120
    rw [c_gain (show b < 4 by omega) (show a < 4 by omega), gx_bd_some, e2, sI_lay 36 (show isA 119 0 36 = true by decide) (by decide) hpI (by decide), Option.bind_some]
    generalize hM3 : sI M2 119 (pI i j) (gn (W2 n a b V i j) b a i j) = M3
    have f31 : ∀ c, c ≠ 118 → c ≠ 119 → M3.1 c = M1.1 c := fun c q1 q2 => by rw [← hM3, sI_o q2, ← hM2, sI_o q1]
    have f32 : M3.2 = M1.2 := by rw [← hM3, ← hM2]; rfl
    have e3 : VC M3.1 102 = one n b (one n a V i) j := by rw [← e1.trans (show W2 n a b V i j = one n b (one n a V i) j from rfl)]; exact VC_eq (fun c q1 q2 => f31 c (by omega) (by omega))
    have hs3 : stoH M3 (one n a V i) n b j 1 := by
      unfold stoH
      rw [f31 (111 + 1) (by omega) (by omega)]
      exact a3
    have hP3 : ∀ j, j < 5 → M3.2.2 110 j = some (111 + j) := by rw [f32, a4.1]; exact hP
    obtain ⟨M4, c1, c2, c3⟩ := c_tbh (M := M3) (t := 1) hokA hb (by omega) e3 hs3
    have c1' : fX0_takeBack 102 112 (lay M3) = some ((), lay M4) := c1
    rw [r_101_0, Option.bind_some, r_101_1, Option.bind_some, show gx_aR 3 (lay M3) 110 1 = some 112 from ar110 (t := 1) (by omega) hP3, Option.bind_some, c1', gx_bd_some, nI_1]
    have f4 : ∀ c, ¬ (102 ≤ c ∧ c < 110) → M4.1 c = M3.1 c := fun c hc => c3.2 c (fun z => by unfold inB at z; omega)
    have f1 : ∀ c, ¬ (102 ≤ c ∧ c < 110) → c ≠ 112 → M1.1 c = M.1 c := fun c q1 q2 => a4.2 c (fun z => by unfold inBS at z; omega)
    have hs4 : stoH M4 V n a i 0 := by
      unfold stoH
      rw [f4 (111 + 0) (by omega), f31 (111 + 0) (by omega) (by omega), f1 (111 + 0) (by omega) (by omega)]
      exact hs
    have k4 : kW M M4 := ⟨c3.1.trans (f32.trans a4.1), fun c hc => by rw [f4 c (by omega), f31 c (by omega) (by omega), f1 c (by omega) (by omega)]⟩
    have v118 : ∀ q, M4.1 118 q = if q = pI i j then gn (W2 n a b V i j) a b i j else M.1 118 q := fun q => by
      rw [f4 118 (by omega), ← hM3, sI_o (by omega), ← hM2]
      by_cases z : q = pI i j
      · rw [if_pos z, z, sI_s]
      · rw [if_neg z, sI_n z, f1 118 (by omega) (by omega)]
    have v119 : ∀ q, M4.1 119 q = if q = pI i j then gn (W2 n a b V i j) b a i j else M.1 119 q := fun q => by
      rw [f4 119 (by omega), ← hM3]
      by_cases z : q = pI i j
      · rw [if_pos z, z, sI_s]
      · rw [if_neg z, sI_n z, ← hM2, sI_o (by omega), f1 119 (by omega) (by omega)]
    obtain ⟨M5, x1, x2, x3, x4, x5⟩ := c_weigh_39 hd1 hd ha hb hi hi6 hok h1 k11 m (j + 1) F M4 (by omega) (by omega) (by omega) c2 hs4 (by rw [k4.1]; exact hP)
    refine ⟨M5, x1, x2, k4.tr x3, fun q hq => ?_, fun x q1 q2 => ?_⟩
    · have y := x4 q (fun x z1 z2 => hq x (by omega) z2)
      have z := hq j (Nat.le_refl _) (by omega)
      rw [y.1, y.2, v118, v119, if_neg z, if_neg z]
      exact ⟨rfl, rfl⟩
    · by_cases z : x = j
      · subst z
        have y := x4 (pI i x) (fun w z1 z2 => by unfold pI; omega)
        rw [y.1, y.2, v118, v119, if_pos rfl, if_pos rfl]
        exact ⟨rfl, rfl⟩
      · exact x5 x (by omega) q2
theorem c_weigh_11 (hd1 : 2 ≤ d) (hd : d ≤ 6) (ha : a < np) (hb : b < np) (hok : okV V n np) (h1 : V 1 = nI d) : ∀ (m i F : Nat) (M : mm), i + m = d + 1 → 1 ≤ i → m < F → VC M.1 102 = V → (∀ j, j < 5 → M.2.2 110 j = some (111 + j)) → ∃ M', fX5_weighPairs_11 F 101 (nI a) (nI b) (nI i) (lay M) = some ((), lay M') ∧ VC M'.1 102 = V ∧ kW M M' ∧ (∀ q, (∀ y x, i ≤ y → y ≤ d → 1 ≤ x → x ≤ d → q ≠ pI y x) → M'.1 118 q = M.1 118 q ∧ M'.1 119 q = M.1 119 q) ∧ ∀ y x, i ≤ y → y ≤ d → 1 ≤ x → x ≤ d → M'.1 118 (pI y x) = gn (W2 n a b V y x) a b y x ∧ M'.1 119 (pI y x) = gn (W2 n a b V y x) b a y x
  | m, i, 0, M, _, _, hF, _, _ => by omega
  | 0, i, F + 1, M, hi, _, _, hV, hP => by
    have hD : M.1 102 1 = nI d := by rw [← VC_0 M.1 102 (by omega), hV]; exact h1
    show ∃ M', bX5_weighPairs_11 (fX5_weighPairs_11 F) 101 (nI a) (nI b) (nI i) (lay M) = _ ∧ _
    unfold bX5_weighPairs_11
    rw [r_101_0, Option.bind_some, bi1 brd_102, Option.bind_some, hD, if_pos (nI_lt (by omega) (by omega))]
    exact ⟨M, rfl, hV, ⟨rfl, fun _ _ => rfl⟩, fun _ _ => ⟨rfl, rfl⟩, fun y x h1 h2 => by omega⟩
  | m + 1, i, F + 1, M, hi, hi1, hF, hV, hP => by
    have hD : M.1 102 1 = nI d := by rw [← VC_0 M.1 102 (by omega), hV]; exact h1
    show ∃ M', bX5_weighPairs_11 (fX5_weighPairs_11 F) 101 (nI a) (nI b) (nI i) (lay M) = _ ∧ _
    unfold bX5_weighPairs_11
    obtain ⟨M1, a1, a2, a3, a4⟩ := c_mvh (M := M) (i := a) (r := i) (t := 0) (n := n) (np := np) (by rw [hV]; exact hok) ha hi1 (by omega) (by omega)
    rw [hV] at a2 a3
    have a1' : fX5_moveUnlessHome 101 (nI a) (nI i) 111 (lay M) = some ((), lay M1) := a1
    rw [r_101_0, Option.bind_some, bi1 brd_102, Option.bind_some, hD, if_neg (show ¬ nI d < nI i from by rw [t_lt, nI_toInt (by omega), nI_toInt (by omega)]; omega), r_101_1, Option.bind_some, show gx_aR 3 (lay M) 110 0 = some 111 from ar110 (t := 0) (by omega) hP, Option.bind_some, a1', gx_bd_some]
    have f1 : ∀ c, ¬ (102 ≤ c ∧ c < 110) → c ≠ 111 → M1.1 c = M.1 c := fun c q1 q2 => a4.2 c (fun z => by unfold inBS at z; omega)
    obtain ⟨M2, b1, b2, b3, b4, b5⟩ := c_weigh_39 (i := i) hd1 hd ha hb hi1 (by omega) hok h1 (fX5_weighPairs_11 F) d 1 gx_N M1 (by omega) (by omega) (by unfold gx_N; omega) a2 a3 (by rw [a4.1]; exact hP)
    have b1' : fX5_weighPairs_39 (fX5_weighPairs_11 F) gx_N 101 (nI a) (nI b) (nI i) 1 (lay M1) = _ := b1
    rw [b1']
    have k2 : kW M M2 := ⟨b3.1.trans a4.1, fun c hc => by rw [b3.2 c hc, f1 c (by omega) (by omega)]⟩
    obtain ⟨M3, x1, x2, x3, x4, x5⟩ := c_weigh_11 hd1 hd ha hb hok h1 m (i + 1) F M2 (by omega) (by omega) (by omega) b2 (by rw [k2.1]; exact hP)
    refine ⟨M3, x1, x2, k2.tr x3, fun q hq => ?_, fun y x q1 q2 q3 q4 => ?_⟩
    · have z := x4 q (fun y x z1 z2 z3 z4 => hq y x (by omega) z2 z3 z4)
      have z' := b4 q (fun x z1 z2 => hq i x (Nat.le_refl _) (by omega) z1 z2)
      rw [z.1, z.2, z'.1, z'.2, f1 118 (by omega) (by omega), f1 119 (by omega) (by omega)]
      exact ⟨rfl, rfl⟩
    · by_cases z : y = i
      · subst z
        have w := x4 (pI y x) (fun y' x' z1 z2 z3 z4 => by unfold pI; omega)
        rw [w.1, w.2]
        exact b5 x q3 q4
      · exact x5 y x (by omega) q2 q3 q4
end GN
