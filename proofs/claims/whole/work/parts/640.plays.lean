/-! a row of throws, played -/
theorem nI_mod {a b : Nat} (ha : a < 2147483648) (hb0 : 0 < b) (hb : b < 2147483648) : nI a - nI a / nI b * nI b = nI (a % b) := by
  have hm : a / b * b ≤ a := Nat.div_mul_le_self a b
  have hdm : a / b * b + a % b = a := by rw [Nat.mul_comm]; exact Nat.div_add_mod a b
  have hr : a % b < b := Nat.mod_lt a hb0
  rw [pk_div (by omega) (by omega) (by omega), pk_mul]
  apply t_inj
  rw [t_sub (by rw [nI_toInt (by omega), nI_toInt (by omega)]; omega) (by rw [nI_toInt (by omega), nI_toInt (by omega)]; omega), nI_toInt (by omega), nI_toInt (by omega), nI_toInt (by omega)]
  omega
def one (n i : Nat) (V : Nat → Int32) (r : Nat) : Nat → Int32 := if V (32 + i) = V 0 then V else thr V n i (nI r)
def play (d n i : Nat) : Nat → Nat → (Nat → Int32) → Nat → Int32
  | 0, _, V => V
  | T + 1, x, V => play d n i T x (one n i V (x / d ^ T % d + 1))
theorem okV_one {V : Nat → Int32} {n np i r : Nat} (h : okV V n np) (hi : i < np) (h1 : 1 ≤ r) (h6 : r ≤ 6) : okV (one n i V r) n np := by
  unfold one
  split
  · exact h
  · exact okV_thr h hi h1 h6
theorem eqv_one {V W : Nat → Int32} {n np i r : Nat} (h : eqv n np V W) (hi : i < np) : eqv n np (one n i V r) (one n i W r) := by
  unfold one
  rw [h.1, (h.2.2.2.2.2 i hi).2.1]
  split
  · exact h
  · exact eqv_thr h hi
theorem okV_play {d n np i : Nat} (hd1 : 1 ≤ d) (hd : d ≤ 6) (hi : i < np) : ∀ (T x : Nat) (V : Nat → Int32), okV V n np → okV (play d n i T x V) n np
  | 0, _, V, h => h
  | T + 1, x, V, h => okV_play hd1 hd hi T x _ (okV_one h hi (by omega) (by have := Nat.mod_lt (x / d ^ T) (show 0 < d by omega); omega))
theorem eqv_play {d n np i : Nat} (hi : i < np) : ∀ (T x : Nat) (V W : Nat → Int32), eqv n np V W → eqv n np (play d n i T x V) (play d n i T x W)
  | 0, _, V, W, h => h
  | T + 1, x, V, W, h => eqv_play hi T x _ _ (eqv_one h hi)
theorem r_plays_l {d n np i x T : Nat} (hd1 : 2 ≤ d) (hd : d ≤ 6) (hi : i < np) (hT : T ≤ 5) (hx : x < 2147483648) : ∀ (m t F : Nat) (M : mm), M.1 123 1 = nI d → okV (VR M.1 812) n np → t + m = T → m < F → ∃ M', fX11_plays_10 F 122 (nI i) (nI x) (nI T) (nI (d ^ m)) (nI t) (lay M) = some ((), lay M') ∧ VR M'.1 812 = play d n i m x (VR M.1 812) ∧ frW 812 852 M M'
  | m, t, 0, M, _, _, _, hF => by omega
  | 0, t, F + 1, M, hD, hok, ht, _ => by
    show ∃ M', bX11_plays_10 (fX11_plays_10 F) 122 (nI i) (nI x) (nI T) (nI (d ^ 0)) (nI t) (lay M) = _ ∧ _
    unfold bX11_plays_10
    rw [if_pos (nI_le (by omega) (by omega))]
    exact ⟨M, rfl, rfl, frW.rf⟩
  | m + 1, t, F + 1, M, hD, hok, ht, hF => by
    show ∃ M', bX11_plays_10 (fX11_plays_10 F) 122 (nI i) (nI x) (nI T) (nI (d ^ (m + 1))) (nI t) (lay M) = _ ∧ _
    have hp := pow_bd hd (t := m + 1) (by omega)
    have hp2 := pow_bd hd (t := m) (by omega)
    have hp0 : 0 < d ^ m := Nat.pow_pos (by omega)
    have hne : ¬ nI d = 0 := fun z => by have := (nI_eq (b := 0) (by omega) (by omega)).mp z; omega
    have hne2 : ¬ nI (d ^ m) = 0 := fun z => by have := (nI_eq (b := 0) (by omega) (by omega)).mp z; omega
    have hdig := Nat.mod_lt (x / d ^ m) (show 0 < d by omega)
    have hxd : x / d ^ m ≤ x := Nat.div_le_self _ _
    unfold bX11_plays_10 gx_dI gx_rI
    rw [if_neg (nI_ge (by omega) (by omega)), r_122_0, Option.bind_some, show gx_aI 0 (lay M) 123 1 = some (M.1 123 1) from ra (k := 1) (by omega), Option.bind_some, hD, if_neg hne, Option.bind_some, pk_div (by omega) (by omega) (by omega), Nat.pow_succ, Nat.mul_div_cancel _ (by omega), if_neg hne2, Option.bind_some, Option.bind_some, show gx_aI 0 (lay M) 123 1 = some (M.1 123 1) from ra (k := 1) (by omega), Option.bind_some, hD, pk_div (by omega) (by omega) (by omega), if_neg hne, Option.bind_some, nI_mod (by omega) (by omega) (by omega), nI_1]
    obtain ⟨M1, a1, a2, a3⟩ := r_rollsTried (M := M) (i := i) (t := nI (x / d ^ m % d + 1)) hok hi
    rw [a1, gx_bd_some, nI_1]
    have a2' : VR M1.1 812 = one n i (VR M.1 812) (x / d ^ m % d + 1) := a2
    obtain ⟨M2, b1, b2, b3⟩ := r_plays_l hd1 hd hi hT hx m (t + 1) F M1 (by rw [a3.2.2 1 (by omega)]; exact hD) (by rw [a2']; exact okV_one hok hi (by omega) (by omega)) (by omega) (by omega)
    exact ⟨M2, b1, by rw [b2, a2']; rfl, a3.tr b3⟩
theorem r_plays {M : mm} {d n np i x T : Nat} (hd1 : 2 ≤ d) (hd : d ≤ 6) (hi : i < np) (hT : T ≤ 5) (hx : x < 2147483648) (hD : M.1 123 1 = nI d) (hok : okV (VR M.1 812) n np) : ∃ M', fX11_plays 122 (nI i) (nI x) (nI T) (lay M) = some ((), lay M') ∧ VR M'.1 812 = play d n i T x (VR M.1 812) ∧ frW 812 852 M M' := by
  unfold fX11_plays
  rw [o_122, Option.bind_some, r_rowsOf hD hT, gx_bd_some]
  exact r_plays_l hd1 hd hi hT hx T 0 gx_N M hD hok (by omega) (by unfold gx_N; omega)
