/-! fractions told: both sides run the same steps -/
def nJ (n : Nat) : Int64 := Int64.ofInt n
theorem nJ_i {n : Nat} (h : n < 4611686018427387904) : (nJ n).toInt = n := by
  unfold nJ
  rw [Int64.toInt_ofInt, show Int64.size = 18446744073709551616 from rfl]
  exact Int.bmod_eq_of_le (by omega) (by omega)
theorem nJ_inj {x : Int64} {n : Nat} (h : n < 4611686018427387904) (e : x.toInt = n) : x = nJ n := Int64.toInt_inj.mp (by rw [nJ_i h, e])
theorem nJ_0 {n : Nat} (h : n < 4611686018427387904) : nJ n = 0 ↔ n = 0 := by
  constructor
  · intro q
    have := congrArg Int64.toInt q
    rw [nJ_i h] at this
    have e : (0 : Int64).toInt = 0 := by decide
    omega
  · intro q; subst q; rfl
theorem nJ_div {a b : Nat} (ha : a < 4611686018427387904) (hb : b < 4611686018427387904) : nJ a / nJ b = nJ (a / b) := by
  have hd : a / b ≤ a := Nat.div_le_self a b
  refine nJ_inj (by omega) ?_
  rw [Int64.toInt_div, nJ_i ha, nJ_i hb]
  have e : Int.tdiv (a : Int) (b : Int) = ((a / b : Nat) : Int) := by rw [Int.tdiv_eq_ediv_of_nonneg (by omega)]; rfl
  rw [e]
  clear e
  generalize a / b = t at hd ⊢
  exact Int.bmod_eq_of_le (by omega) (by omega)
theorem nJ_mod {a b : Nat} (ha : a < 4611686018427387904) (hb : b < 4611686018427387904) : nJ a - nJ a / nJ b * nJ b = nJ (a % b) := by
  have hm : a / b * b ≤ a := Nat.div_mul_le_self a b
  have hr : a % b ≤ a := Nat.mod_le a b
  have hdm : a / b * b + a % b = a := by rw [Nat.mul_comm]; exact Nat.div_add_mod a b
  rw [nJ_div ha hb]
  refine nJ_inj (by omega) ?_
  have hd : a / b ≤ a := Nat.div_le_self a b
  have e1 : (nJ (a / b) * nJ b).toInt = ((a / b * b : Nat) : Int) := by
    rw [Int64.toInt_mul, nJ_i (by omega), nJ_i hb, ← Int.natCast_mul]
    exact Int.bmod_eq_of_le (by omega) (by omega)
  rw [Int64.toInt_sub, e1, nJ_i ha]
  rw [show ((a : Int) - ((a / b * b : Nat) : Int)) = ((a % b : Nat) : Int) by omega]
  exact Int.bmod_eq_of_le (by omega) (by omega)
def eg : Nat → Nat → Nat → Nat
  | 0, a, _ => a
  | t + 1, a, b => if b = 0 then a else eg t b (a % b)
theorem eg_mod : ∀ (k t a b : Nat), b < 2 ^ k → 2 * k + 1 ≤ t → eg t a b = eg (2 * k + 1) a b
  | 0, t, a, b, hb, ht => by
    have : b = 0 := by have : b < 1 := hb; omega
    subst this
    obtain ⟨t', rfl⟩ : ∃ t', t = t' + 1 := ⟨t - 1, by omega⟩
    rfl
  | k + 1, t, a, b, hb, ht => by
    obtain ⟨t', rfl⟩ : ∃ t', t = t' + 1 + 1 := ⟨t - 2, by omega⟩
    show eg (t' + 1 + 1) a b = eg (2 * k + 1 + 1 + 1) a b
    unfold eg
    by_cases c : b = 0
    · rw [if_pos c, if_pos c]
    rw [if_neg c, if_neg c]
    unfold eg
    by_cases c2 : a % b = 0
    · rw [if_pos c2, if_pos c2]
    rw [if_neg c2, if_neg c2]
    have h1 : a % b < b := Nat.mod_lt _ (by omega)
    have h2 : b % (a % b) < 2 ^ k := by
      have h3 := Nat.mod_lt b (show 0 < a % b by omega)
      rw [Nat.pow_succ] at hb
      by_cases z : 2 * (a % b) ≤ b
      · omega
      · rw [Nat.mod_eq_sub_mod (by omega), Nat.mod_eq_of_lt (by omega)]
        omega
    exact eg_mod k t' _ _ h2 (by omega)
theorem eg_pos : ∀ (t a b : Nat), 0 < a ∨ 0 < b → (2 ≤ t ∨ 0 < a) → 0 < eg t a b
  | 0, a, b, h, h2 => by unfold eg; omega
  | t + 1, a, b, h, h2 => by
    unfold eg
    by_cases c : b = 0
    · rw [if_pos c]; omega
    · rw [if_neg c]; exact eg_pos t b (a % b) (by omega) (by omega)
