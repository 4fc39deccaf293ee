/-! how many rows of throws there are -/
theorem pow_bd {d : Nat} (hd : d ≤ 6) : ∀ {t : Nat}, t ≤ 5 → d ^ t ≤ 7776 := fun {t} ht => by
  have h1 : d ^ t ≤ 6 ^ t := Nat.pow_le_pow_left hd t
  have h2 : 6 ^ t ≤ 6 ^ 5 := Nat.pow_le_pow_right (by omega) ht
  have h3 : 6 ^ 5 = 7776 := by decide
  omega
theorem r_rowsOf_l {M : mm} {d T : Nat} (hD : M.1 123 1 = nI d) (hT : T ≤ 5) : ∀ (m t F : Nat), t + m = T → m < F → fX11_rowsOf_4 F 122 (nI T) (nI (d ^ t)) (nI t) (lay M) = some (nI (d ^ T), lay M)
  | m, t, 0, _, hF => by omega
  | 0, t, F + 1, ht, _ => by
    show bX11_rowsOf_4 (fX11_rowsOf_4 F) 122 (nI T) (nI (d ^ t)) (nI t) (lay M) = _
    unfold bX11_rowsOf_4
    rw [if_pos (nI_le (by omega) (by omega)), show t = T by omega]
  | m + 1, t, F + 1, ht, hF => by
    show bX11_rowsOf_4 (fX11_rowsOf_4 F) 122 (nI T) (nI (d ^ t)) (nI t) (lay M) = _
    unfold bX11_rowsOf_4
    rw [if_neg (nI_ge (by omega) (by omega)), r_122_0, Option.bind_some, show (1 : Int32) = nI 1 from rfl, ra (by omega), Option.bind_some, hD, pk_mul, ← Nat.pow_succ, nI_add]
    exact r_rowsOf_l hD hT m (t + 1) F (by omega) (by omega)
theorem r_rowsOf {M : mm} {d T : Nat} (hD : M.1 123 1 = nI d) (hT : T ≤ 5) : fX11_rowsOf 122 (nI T) (lay M) = some (nI (d ^ T), lay M) := by
  unfold fX11_rowsOf
  rw [o_122, Option.bind_some]
  exact r_rowsOf_l hD hT T 0 gx_N (by omega) (by unfold gx_N; omega)
theorem c_power_l {d T : Nat} (h : gx_H) (hT : T ≤ 1000) : ∀ (m t F : Nat), t + m = T → m < F → fX10_power_4 F (nI d) (nI T) (nI (d ^ t)) (nI t) h = some (nI (d ^ T), h)
  | m, t, 0, _, hF => by omega
  | 0, t, F + 1, ht, _ => by
    show bX10_power_4 (fX10_power_4 F) (nI d) (nI T) (nI (d ^ t)) (nI t) h = _
    unfold bX10_power_4
    rw [if_pos (nI_le (by omega) (by omega)), show t = T by omega]
  | m + 1, t, F + 1, ht, hF => by
    show bX10_power_4 (fX10_power_4 F) (nI d) (nI T) (nI (d ^ t)) (nI t) h = _
    unfold bX10_power_4
    rw [if_neg (nI_ge (by omega) (by omega)), pk_mul, ← Nat.pow_succ, nI_1]
    exact c_power_l h hT m (t + 1) F (by omega) (by omega)
theorem c_power {d T : Nat} (h : gx_H) (hT : T ≤ 1000) : fX10_power (nI d) (nI T) h = some (nI (d ^ T), h) := by
  unfold fX10_power
  exact c_power_l h hT T 0 gx_N (by omega) (by unfold gx_N; omega)
