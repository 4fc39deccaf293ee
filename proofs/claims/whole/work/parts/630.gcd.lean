/-! fractions told: both sides run the same steps -/
def nJ (n : Nat) : Int64 := Int64.ofInt n
theorem nJ_i {n : Nat} (h : n < 4611686018427387904) : (nJ n).toInt = n := by
  unfold nJ
  rw [Int64.toInt_ofInt, show Int64.size = 18446744073709551616 from rfl]
  exact Int.bmod_eq_of_le (by omega) (by omega)
theorem nJ_inj {x : Int64} {n : Nat} (h : n < 4611686018427387904) (e : x.toInt = n) : x = nJ n := Int64.toInt_inj.mp (by rw [nJ_i h, e])
theorem nJ_0 {n : Nat} (h : n < 4611686018427387904) : nJ n = 0 ↔ n = 0 := by
  constructor
  · intro q
    have := congrArg Int64.toInt q
    rw [nJ_i h] at this
    have e : (0 : Int64).toInt = 0 := by decide
    omega
  · intro q; subst q; rfl
theorem nJ_div {a b : Nat} (ha : a < 4611686018427387904) (hb : b < 4611686018427387904) : nJ a / nJ b = nJ (a / b) := by
  have hd : a / b ≤ a := Nat.div_le_self a b
  refine nJ_inj (by omega) ?_
  rw [Int64.toInt_div, nJ_i ha, nJ_i hb]
  have e : Int.tdiv (a : Int) (b : Int) = ((a / b : Nat) : Int) := by rw [Int.tdiv_eq_ediv_of_nonneg (by omega)]; rfl
  rw [e]
  clear e
  generalize a / b = t at hd ⊢
  exact Int.bmod_eq_of_le (by omega) (by omega)
theorem nJ_mod {a b : Nat} (ha : a < 4611686018427387904) (hb : b < 4611686018427387904) : nJ a - nJ a / nJ b * nJ b = nJ (a % b) := by
  have hm : a / b * b ≤ a := Nat.div_mul_le_self a b
  have hr : a % b ≤ a := Nat.mod_le a b
  have hdm : a / b * b + a % b = a := by rw [Nat.mul_comm]; exact Nat.div_add_mod a b
  rw [nJ_div ha hb]
  refine nJ_inj (by omega) ?_
  have hd : a / b ≤ a := Nat.div_le_self a b
  have e1 : (nJ (a / b) * nJ b).toInt = ((a / b * b : Nat) : Int) := by
    rw [Int64.toInt_mul, nJ_i (by omega), nJ_i hb, ← Int.natCast_mul]
    exact Int.bmod_eq_of_le (by omega) (by omega)
  rw [Int64.toInt_sub, e1, nJ_i ha]
  rw [show ((a : Int) - ((a / b * b : Nat) : Int)) = ((a % b : Nat) : Int) by omega]
  exact Int.bmod_eq_of_le (by omega) (by omega)
def eg : Nat → Nat → Nat → Nat
  | 0, a, _ => a
  | t + 1, a, b => if b = 0 then a else eg t b (a % b)
theorem eg_mod : ∀ (k t a b : Nat), b < 2 ^ k → 2 * k + 1 ≤ t → eg t a b = eg (2 * k + 1) a b
  | 0, t, a, b, hb, ht => by
    have : b = 0 := by have : b < 1 := hb; omega
    subst this
    obtain ⟨t', rfl⟩ : ∃ t', t = t' + 1 := ⟨t - 1, by omega⟩
    rfl
  | k + 1, t, a, b, hb, ht => by
    obtain ⟨t', rfl⟩ : ∃ t', t = t' + 1 + 1 := ⟨t - 2, by omega⟩
    show eg (t' + 1 + 1) a b = eg (2 * k + 1 + 1 + 1) a b
    unfold eg
    by_cases c : b = 0
    · rw [if_pos c, if_pos c]
    rw [if_neg c, if_neg c]
    unfold eg
    by_cases c2 : a % b = 0
    · rw [if_pos c2, if_pos c2]
    rw [if_neg c2, if_neg c2]
    have h1 : a % b < b := Nat.mod_lt _ (by omega)
    have h2 : b % (a % b) < 2 ^ k := by
      have h3 := Nat.mod_lt b (show 0 < a % b by omega)
      rw [Nat.pow_succ] at hb
      by_cases z : 2 * (a % b) ≤ b
      · omega
      · rw [Nat.mod_eq_sub_mod (by omega), Nat.mod_eq_of_lt (by omega)]
        omega
    exact eg_mod k t' _ _ h2 (by omega)
theorem eg_pos : ∀ (t a b : Nat), 0 < a ∨ 0 < b → (2 ≤ t ∨ 0 < a) → 0 < eg t a b
  | 0, a, b, h, h2 => by unfold eg; omega
  | t + 1, a, b, h, h2 => by
    unfold eg
    by_cases c : b = 0
    · rw [if_pos c]; omega
    · rw [if_neg c]; exact eg_pos t b (a % b) (by omega) (by omega)
theorem eg_le : ∀ (t a b : Nat), a < 4611686018427387904 → b < 4611686018427387904 → eg t a b < 4611686018427387904
  | 0, a, b, h, _ => by unfold eg; exact h
  | t + 1, a, b, h, h2 => by
    unfold eg
    split
    · exact h
    · exact eg_le t b (a % b) h2 (Nat.lt_of_le_of_lt (Nat.mod_le a b) h)
theorem lg_0 {n : Nat} (h : n < 4611686018427387904) : lg_cmp (nJ n) 0 = 0 ↔ n = 0 := (lgc_eq _ _).trans (nJ_0 h)
theorem c_gcd_l (h : gx_H) : ∀ (t F v a b : Nat), v + t = 200 → t < F → a < 4611686018427387904 → b < 4611686018427387904 → fX10_commonDivisor_9 F (nJ a) (nJ b) (nI v) h = some (nJ (eg t a b), h)
  | t, 0, v, a, b, _, hF, _, _ => by omega
  | 0, F + 1, v, a, b, hv, _, _, _ => by
    show bX10_commonDivisor_9 (fX10_commonDivisor_9 F) (nJ a) (nJ b) (nI v) h = _
    unfold bX10_commonDivisor_9
    rw [if_pos (show (200 : Int32) ≤ nI v from nI_le (a := 200) (by omega) (by omega))]
    rfl
  | t + 1, F + 1, v, a, b, hv, hF, ha, hb => by
    show bX10_commonDivisor_9 (fX10_commonDivisor_9 F) (nJ a) (nJ b) (nI v) h = _
    unfold bX10_commonDivisor_9 eg
    rw [if_neg (show ¬ (200 : Int32) ≤ nI v from nI_ge (b := 200) (by omega) (by omega))]
    by_cases c : b = 0
    · rw [if_pos ((lg_0 hb).mpr c), if_pos c]
      rfl
    · rw [if_neg (fun z => c ((lg_0 hb).mp z)), if_neg c]
      unfold gx_rJ
      rw [if_neg (fun z => c ((nJ_0 hb).mp z)), Option.bind_some, nJ_mod ha hb, nI_1]
      exact c_gcd_l h t F (v + 1) b (a % b) (by omega) (by omega) hb (Nat.lt_of_le_of_lt (Nat.mod_le a b) ha)
def ez : Nat → Nat → Nat → Prop
  | 0, _, b => b = 0
  | t + 1, a, b => b = 0 ∨ ez t b (a % b)
theorem ez_mod : ∀ (k a b : Nat), b < 2 ^ k → ez (2 * k) a b
  | 0, a, b, hb => by
    show b = 0
    have : b < 1 := hb
    omega
  | k + 1, a, b, hb => by
    show b = 0 ∨ (a % b = 0 ∨ ez (2 * k) (a % b) (b % (a % b)))
    by_cases c : b = 0
    · exact Or.inl c
    by_cases c2 : a % b = 0
    · exact Or.inr (Or.inl c2)
    refine Or.inr (Or.inr (ez_mod k _ _ ?_))
    have h1 : a % b < b := Nat.mod_lt _ (by omega)
    have h3 := Nat.mod_lt b (show 0 < a % b by omega)
    rw [Nat.pow_succ] at hb
    by_cases z : 2 * (a % b) ≤ b
    · omega
    · rw [Nat.mod_eq_sub_mod (by omega), Nat.mod_eq_of_lt (by omega)]
      omega
theorem r_told_l {M : mm} {x y : Nat} (hx : x < 4611686018427387904) (hy : y < 4611686018427387904) : ∀ (t F a b : Nat), t < F → a < 4611686018427387904 → b < 4611686018427387904 → ez t a b → 0 < eg (t + 1) a b → fX11_told_6 F 122 (nJ x) (nJ y) (nJ a) (nJ b) (lay M) = some (1, lay (sJ (sJ M 122 4 (nJ (x / eg (t + 1) a b))) 122 5 (nJ (y / eg (t + 1) a b))))
  | t, 0, a, b, hF, _, _, _, _ => by omega
  | t, F + 1, a, b, hF, ha, hb, hz, hp => by
    show bX11_told_6 (fX11_told_6 F) 122 (nJ x) (nJ y) (nJ a) (nJ b) (lay M) = _
    unfold bX11_told_6
    by_cases c : b = 0
    · have e : eg (t + 1) a b = a := by unfold eg; rw [if_pos c]
      rw [e] at hp ⊢
      rw [if_pos ((lg_0 hb).mpr c)]
      unfold gx_dJ
      rw [if_neg (fun z => by have := (nJ_0 ha).mp z; omega), Option.bind_some, nJ_div hx ha, pj_122_4, Option.bind_some, if_neg (fun z => by have := (nJ_0 ha).mp z; omega), Option.bind_some, nJ_div hy ha, pj_122_5, Option.bind_some]
    · rw [if_neg (fun z => c ((lg_0 hb).mp z))]
      unfold gx_rJ
      rw [if_neg (fun z => c ((nJ_0 hb).mp z)), Option.bind_some, nJ_mod ha hb]
      cases t with
      | zero => exact absurd hz c
      | succ t =>
        have e : eg (t + 1 + 1) a b = eg (t + 1) b (a % b) := by
          show (if b = 0 then a else eg (t + 1) b (a % b)) = _
          rw [if_neg c]
        rw [e] at hp ⊢
        refine r_told_l hx hy t F b (a % b) (by omega) hb (Nat.lt_of_le_of_lt (Nat.mod_le a b) ha) ?_ hp
        rcases hz with q | q
        · exact absurd q c
        · exact q
/-- a fraction told: the class's and the reference's fields -/
theorem tell {M M1 : mm} {x y : Nat} (hx : x < 4611686018427387904) (hy : y < 4611686018427387904) (h0 : 0 < y) : ∃ p q : Int64, fX10_keepFraction 0 (nJ x) (nJ y) (lay M) = some (1, lay (sJ (sJ M 0 6 p) 0 7 q)) ∧ fX11_told 122 (nJ x) (nJ y) (lay M1) = some (1, lay (sJ (sJ M1 122 4 p) 122 5 q)) := by
  have h62 : (2 : Nat) ^ 62 = 4611686018427387904 := by decide
  have hy2 : y < 2 ^ 62 := by omega
  have e1 : eg 200 x y = eg (2 * 62 + 1) x y := eg_mod 62 200 x y hy2 (by omega)
  have hp : 0 < eg (2 * 62 + 1) x y := eg_pos _ _ _ (Or.inr h0) (Or.inl (by omega))
  have hl := eg_le (2 * 62 + 1) x y hx hy
  have hz : ez (2 * 62) x y := ez_mod 62 x y hy2
  refine ⟨nJ (x / eg (2 * 62 + 1) x y), nJ (y / eg (2 * 62 + 1) x y), ?_, ?_⟩
  · have hc : fX10_commonDivisor (nJ x) (nJ y) (lay M) = some (nJ (eg (2 * 62 + 1) x y), lay M) := by
      rw [← e1]
      exact c_gcd_l (lay M) 200 gx_N 0 x y (by omega) (by unfold gx_N; omega) hx hy
    unfold fX10_keepFraction fX10_keepFraction_30
    rw [o_0, Option.bind_some, hc, gx_bd_some]
    generalize eg (2 * 62 + 1) x y = d at hp hl ⊢
    have hd : ¬ nJ d = 0 := fun z => by have := (nJ_0 hl).mp z; omega
    have hpos : ¬ lg_cmp (nJ d) 0 ≤ 0 := by
      have := (lgc_gt (nJ d) 0).mpr (by rw [Int64.lt_iff_toInt_lt, nJ_i hl]; show (0 : Int) < d; omega)
      rw [t_lt] at this
      rw [t_le]
      omega
    unfold gx_dJ
    rw [if_neg hpos, if_neg hd, Option.bind_some, nJ_div hx hl, pj_0_6, Option.bind_some, if_neg hd, Option.bind_some, nJ_div hy hl, pj_0_7, Option.bind_some]
  · unfold fX11_told
    rw [o_122, Option.bind_some]
    exact r_told_l hx hy (2 * 62) gx_N x y (by unfold gx_N; omega) hx hy hz hp
