/-! few: the first row home, found by going on and back -/
def fst1 (g : Nat → Option Nat) (w : Nat) : Nat → Nat → Option Nat
  | 0, _ => none
  | m + 1, r => match g r with
    | some y => some ((r - 1) * w + y)
    | none => fst1 g w m (r + 1)
def fv (d n i : Nat) : Nat → (Nat → Int32) → Option Nat
  | 0, V => if V (32 + i) = V 0 then some 0 else none
  | T + 1, V => if V (32 + i) = V 0 then none else fst1 (fun r => fv d n i T (thr V n i (nI r))) (d ^ T) d 1
theorem fst1_lt {g : Nat → Option Nat} {w : Nat} (hg : ∀ r y, g r = some y → y < w) : ∀ {m r y : Nat}, 1 ≤ r → fst1 g w m r = some y → y < (r - 1 + m) * w
  | 0, r, y, _, h => by cases h
  | m + 1, r, y, h1, h => by
    unfold fst1 at h
    cases hq : g r with
    | some z =>
      rw [hq] at h
      have := hg r z hq
      cases h
      have : (r - 1) * w + w ≤ (r - 1 + (m + 1)) * w := by
        rw [← Nat.succ_mul]
        exact Nat.mul_le_mul_right w (by omega)
      omega
    | none =>
      rw [hq] at h
      have := fst1_lt hg (by omega) h
      rwa [show r + 1 - 1 + m = r - 1 + (m + 1) by omega] at this
theorem fv_lt {d n i : Nat} : ∀ {T : Nat} {V : Nat → Int32} {y : Nat}, fv d n i T V = some y → y < d ^ T
  | 0, V, y, h => by
    unfold fv at h
    split at h
    · cases h; exact Nat.one_pos
    · cases h
  | T + 1, V, y, h => by
    unfold fv at h
    split at h
    · cases h
    · have := fst1_lt (fun r y q => fv_lt q) (Nat.le_refl 1) h
      rw [Nat.pow_succ, Nat.mul_comm]
      simpa using this
theorem dig_hi {d m r y : Nat} (h1 : 1 ≤ r) (hr : r ≤ d) (hy : y < d ^ m) : ((r - 1) * d ^ m + y) / d ^ m % d + 1 = r := by
  have hp : 0 < d ^ m := by omega
  rw [Nat.add_comm ((r - 1) * d ^ m), Nat.add_mul_div_right _ _ hp, Nat.div_eq_of_lt hy, Nat.zero_add, Nat.mod_eq_of_lt (by omega)]
  omega
theorem dig_lo {d m j q y : Nat} (hd : 0 < d) (hj : j < m) : (q * d ^ m + y) / d ^ j % d = y / d ^ j % d := by
  obtain ⟨k, rfl⟩ : ∃ k, m = j + (k + 1) := ⟨m - j - 1, by omega⟩
  have hp : 0 < d ^ j := Nat.pow_pos hd
  rw [show q * d ^ (j + (k + 1)) = q * d ^ k * d * d ^ j by rw [Nat.pow_add, Nat.pow_succ]; simp only [Nat.mul_assoc, Nat.mul_comm, Nat.mul_left_comm], Nat.add_comm, Nat.add_mul_div_right _ _ hp, Nat.add_mul_mod_self_right]
