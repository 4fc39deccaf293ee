/-! how many kinds stay alike -/
abbrev hasB (v : Int32) (k : Nat) : Prop := ((v >>> (nI k &&& 31)) &&& (1 : Int32)) = (1 : Int32)
def cA (v : Int32) (L : Nat → Int32) (k : Nat) : Nat → Nat → Nat → Nat
  | 0, _, c => c
  | m + 1, j, c => cA v L k m (j + 1) (if hasB v j ∧ L j = L k then c + 1 else c)
theorem cA_le (v : Int32) (L : Nat → Int32) (k : Nat) : ∀ (m j c : Nat), cA v L k m j c ≤ c + m
  | 0, j, c => by unfold cA; omega
  | m + 1, j, c => by
    unfold cA
    refine Nat.le_trans (cA_le v L k m (j + 1) _) ?_
    split <;> omega
def mA (v : Int32) (L : Nat → Int32) : Nat → Nat → Nat → Nat
  | 0, _, x => x
  | m + 1, k, x => mA v L m (k + 1) (if hasB v k then max x (cA v L k 6 0 0) else x)
theorem mA_le (v : Int32) (L : Nat → Int32) : ∀ (m k x : Nat), x ≤ 6 → mA v L m k x ≤ 6
  | 0, k, x, h => by unfold mA; exact h
  | m + 1, k, x, h => by
    unfold mA
    refine mA_le v L m (k + 1) _ ?_
    have := cA_le v L k 6 0 0
    split <;> omega
theorem f11_has (v : Int32) (k : Nat) (h : gx_H) : fX11_has v (nI k) h = some (b2 (hasB v k), h) := by
  unfold fX11_has fX11_has_14
  by_cases c : hasB v k
  · rw [if_pos c, b2_t c]; rfl
  · rw [if_neg c, b2_f c]; rfl
theorem c_alike_l {M : mm} {v : Int32} {k : Nat} (hk : k < 6) : ∀ (m j F c : Nat), j + m = 6 → m < F → fX2_alikeTo_5 F 120 (nI k) v (nI c) (nI j) (lay M) = some (nI (cA v (M.1 121) k m j c), lay M)
  | m, j, 0, c, _, hF => by omega
  | 0, j, F + 1, c, hj, _ => by
    show bX2_alikeTo_5 (fX2_alikeTo_5 F) 120 (nI k) v (nI c) (nI j) (lay M) = _
    unfold bX2_alikeTo_5
    rw [if_pos (show (6 : Int32) ≤ nI j from nI_le (a := 6) (by omega) (by omega))]
    rfl
  | m + 1, j, F + 1, c, hj, hF => by
    show bX2_alikeTo_5 (fX2_alikeTo_5 F) 120 (nI k) v (nI c) (nI j) (lay M) = _
    have a1 : gx_aI 0 (lay M) 121 (nI j) = some (M.1 121 j) := aI_lay 6 (by decide) (by decide) (by omega) (by decide)
    have a2 : gx_aI 0 (lay M) 121 (nI k) = some (M.1 121 k) := aI_lay 6 (by decide) (by decide) hk (by decide)
    unfold bX2_alikeTo_5 fX2_alikeTo_41
    rw [if_neg (show ¬ (6 : Int32) ≤ nI j from nI_ge (b := 6) (by omega) (by omega)), nI_1, nI_1]
    unfold cA
    by_cases c1 : hasB v j
    · rw [if_pos c1, r_120_0, Option.bind_some, a1, Option.bind_some, Option.bind_some, a2, Option.bind_some]
      by_cases c2 : M.1 121 j = M.1 121 k
      · rw [if_pos c2, if_pos ⟨c1, c2⟩]
        exact c_alike_l hk m (j + 1) F _ (by omega) (by omega)
      · rw [if_neg c2, if_neg (fun z => c2 z.2)]
        exact c_alike_l hk m (j + 1) F _ (by omega) (by omega)
    · rw [if_neg c1, if_neg (fun z => c1 z.1)]
      exact c_alike_l hk m (j + 1) F _ (by omega) (by omega)
theorem c_most_l {M : mm} {v : Int32} : ∀ (m k F x : Nat), k + m = 6 → m < F → x ≤ 6 → fX2_mostAlike_4 F 120 v (nI x) (nI k) (lay M) = some (nI (mA v (M.1 121) m k x), lay M)
  | m, k, 0, x, _, hF, _ => by omega
  | 0, k, F + 1, x, hk, _, _ => by
    show bX2_mostAlike_4 (fX2_mostAlike_4 F) 120 v (nI x) (nI k) (lay M) = _
    unfold bX2_mostAlike_4
    rw [if_pos (show (6 : Int32) ≤ nI k from nI_le (a := 6) (by omega) (by omega))]
    rfl
  | m + 1, k, F + 1, x, hk, hF, hx => by
    show bX2_mostAlike_4 (fX2_mostAlike_4 F) 120 v (nI x) (nI k) (lay M) = _
    unfold bX2_mostAlike_4 fX2_mostAlike_30
    rw [if_neg (show ¬ (6 : Int32) ≤ nI k from nI_ge (b := 6) (by omega) (by omega)), nI_1]
    have hc6 := cA_le v (M.1 121) k 6 0 0
    unfold mA
    by_cases c1 : hasB v k
    · have ha : fX2_alikeTo 120 (nI k) v (lay M) = some (nI (cA v (M.1 121) k 6 0 0), lay M) := by
        unfold fX2_alikeTo
        rw [o_120, Option.bind_some]
        exact c_alike_l (by omega) 6 0 gx_N 0 (by omega) (by unfold gx_N; omega)
      rw [if_pos c1, if_pos c1, ha, gx_bd_some]
      have e : (if nI x < nI (cA v (M.1 121) k 6 0 0) then nI (cA v (M.1 121) k 6 0 0) else nI x) = nI (max x (cA v (M.1 121) k 6 0 0)) := by
        by_cases z : x < cA v (M.1 121) k 6 0 0
        · rw [if_pos (nI_lt z (by omega)), Nat.max_eq_right (by omega)]
        · rw [if_neg (by rw [t_lt, nI_toInt (by omega), nI_toInt (by omega)]; omega), Nat.max_eq_left (by omega)]
      rw [e]
      exact c_most_l m (k + 1) F _ (by omega) (by omega) (by omega)
    · rw [if_neg c1, if_neg c1]
      exact c_most_l m (k + 1) F _ (by omega) (by omega) hx
theorem c_most {M : mm} (v : Int32) : fX2_mostAlike 120 v (lay M) = some (nI (mA v (M.1 121) 6 0 0), lay M) := by
  unfold fX2_mostAlike
  rw [o_120, Option.bind_some]
  exact c_most_l 6 0 gx_N 0 (by omega) (by unfold gx_N; omega) (by omega)
theorem cA_eq {v : Int32} {L L' : Nat → Int32} {k : Nat} (hk : L k = L' k) : ∀ (m j c : Nat), (∀ i, j ≤ i → i < j + m → L i = L' i) → cA v L k m j c = cA v L' k m j c
  | 0, _, _, _ => rfl
  | m + 1, j, c, h => by
    unfold cA
    rw [h j (by omega) (by omega), hk]
    exact cA_eq hk m (j + 1) _ (fun i h1 h2 => h i (by omega) (by omega))
theorem mA_eq {v : Int32} {L L' : Nat → Int32} (h : ∀ i, i < 6 → L i = L' i) : ∀ (m k x : Nat), k + m = 6 → mA v L m k x = mA v L' m k x
  | 0, _, _, _ => rfl
  | m + 1, k, x, hk => by
    unfold mA
    rw [cA_eq (L' := L') (h k (by omega)) 6 0 0 (fun i _ h2 => h i (by omega))]
    exact mA_eq h m (k + 1) _ (by omega)
