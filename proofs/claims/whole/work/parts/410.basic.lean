/-! numbers -/
theorem nIl (a k : Nat) : nI a + (no_index (OfNat.ofNat k : Int32)) = nI (a + OfNat.ofNat k) := nI_add a k
theorem nIl' (a k : Nat) : (no_index (OfNat.ofNat k : Int32)) + nI a = nI (OfNat.ofNat k + a) := nI_add k a
theorem lit_nI (k : Nat) : (no_index (OfNat.ofNat k : Int32)) = nI (OfNat.ofNat k) := rfl
theorem aI_lit {M : mm} {a t k : Nat} (n : Nat) (h : isA a t n = true) (ht : t ≤ 2) (hj : OfNat.ofNat k < n) (hn : n ≤ 852) : gx_aI t (lay M) a (no_index (OfNat.ofNat k : Int32)) = some (M.1 a (OfNat.ofNat k)) := aI_lay (j := k) n h ht hj hn
theorem sI_lit {M : mm} {a t k : Nat} {x : Int32} (n : Nat) (h : isA a t n = true) (ht : t ≤ 2) (hj : OfNat.ofNat k < n) (hn : n ≤ 852) : gx_sI t (lay M) a (no_index (OfNat.ofNat k : Int32)) x = some (lay (sI M a (OfNat.ofNat k) x)) := sI_lay (j := k) n h ht hj hn
theorem b_le {x y : Int32} : x.toInt64 ≤ y.toInt64 ↔ x ≤ y := by rw [Int64.le_iff_toInt_le, Int32.le_iff_toInt_le, Int32.toInt_toInt64, Int32.toInt_toInt64]
theorem b_lt {x y : Int32} : x.toInt64 < y.toInt64 ↔ x < y := by rw [Int64.lt_iff_toInt_lt, Int32.lt_iff_toInt_lt, Int32.toInt_toInt64, Int32.toInt_toInt64]
def b2 (p : Prop) [Decidable p] : Int32 := if p then 1 else 0
theorem b2_t {p : Prop} [Decidable p] (h : p) : b2 p = 1 := if_pos h
theorem b2_f {p : Prop} [Decidable p] (h : ¬ p) : b2 p = 0 := if_neg h
theorem b2_0 {p : Prop} [Decidable p] : b2 p = 0 ↔ ¬ p := by unfold b2; split <;> simp_all
theorem b2_1 {p : Prop} [Decidable p] : b2 p = 1 ↔ p := by unfold b2; split <;> simp_all
theorem ret_b2 {p : Prop} [Decidable p] (h : gx_H) : gx_ret .boolean (b2 p) h = some (b2 p, h) := by
  unfold b2
  split <;> rfl
theorem ret_1 (h : gx_H) : gx_ret .boolean 1 h = some (1, h) := rfl
theorem ret_0 (h : gx_H) : gx_ret .boolean 0 h = some (0, h) := rfl
theorem lgc_lt (x y : Int64) : lg_cmp x y < 0 ↔ x < y := by
  unfold lg_cmp
  simp only [gt_iff_lt, Int64.lt_iff_toInt_lt, ← Int64.toInt_inj]
  repeat' split
  · constructor
    · intro h; exact absurd h (by decide)
    · intro h; omega
  · constructor
    · intro h; exact absurd h (by decide)
    · intro h; omega
  · constructor
    · intro _; omega
    · intro _; decide
theorem lgc_gt (x y : Int64) : 0 < lg_cmp x y ↔ y < x := by
  unfold lg_cmp
  simp only [gt_iff_lt, Int64.lt_iff_toInt_lt, ← Int64.toInt_inj]
  repeat' split
  · constructor
    · intro _; assumption
    · intro _; decide
  · constructor
    · intro h; exact absurd h (by decide)
    · intro h; omega
  · constructor
    · intro h; exact absurd h (by decide)
    · intro h; omega
theorem lgc_eq (x y : Int64) : lg_cmp x y = 0 ↔ x = y := by
  unfold lg_cmp
  simp only [gt_iff_lt, Int64.lt_iff_toInt_lt, ← Int64.toInt_inj]
  repeat' split
  · constructor
    · intro h; exact absurd h (by decide)
    · intro h; omega
  · constructor
    · intro _; assumption
    · intro _; rfl
  · constructor
    · intro h; exact absurd h (by decide)
    · intro h; omega
/-! the reference's small methods -/
theorem f11_in (x y z : Int64) (h : gx_H) : fX11_in x y z h = some (b2 (y ≤ x ∧ x ≤ z), h) := by
  unfold fX11_in fX11_in_17 fX11_in_18
  have e1 := lgc_lt x y
  have e2 := lgc_gt x z
  rw [Int64.lt_iff_toInt_lt] at e1 e2
  by_cases c1 : lg_cmp x y < 0
  · rw [if_pos c1, b2_f (by rw [Int64.le_iff_toInt_le]; have := e1.mp c1; omega)]; rfl
  · rw [if_neg c1]
    by_cases c2 : 0 < lg_cmp x z
    · rw [if_pos c2, b2_f (by rw [Int64.le_iff_toInt_le, Int64.le_iff_toInt_le]; have := e2.mp c2; omega)]; rfl
    · rw [if_neg c2, b2_t]
      · rfl
      · rw [Int64.le_iff_toInt_le, Int64.le_iff_toInt_le]
        constructor
        · exact Int.not_lt.mp (fun q => c1 (e1.mpr q))
        · exact Int.not_lt.mp (fun q => c2 (e2.mpr q))
theorem f11_bad (M : mm) (x : Int32) : fX11_bad 122 x (lay M) = some (x, lay (sI M 126 0 (M.1 126 0 + 1))) := by
  simp (disch := first | omega | decide | assumption) only [fX11_bad, o_122, r_122_0, r_122_1, r_122_2, i_122_3, pi_122_3, j_122_4, pj_122_4, j_122_5, pj_122_5, r_122_6, i_122_7, pi_122_7, i_122_8, pi_122_8, i_122_9, pi_122_9, r_122_10, r_122_11, r_122_12, j_122_13, pj_122_13, Option.bind_some, Option.bind_none, gx_bd_some, aI_lit 3, sI_lit 3]
theorem f11_no (M : mm) : fX11_no 122 (lay M) = some (-3, lay (sI M 126 1 (M.1 126 1 + 1))) := by
  simp (disch := first | omega | decide | assumption) only [fX11_no, o_122, r_122_0, r_122_1, r_122_2, i_122_3, pi_122_3, j_122_4, pj_122_4, j_122_5, pj_122_5, r_122_6, i_122_7, pi_122_7, i_122_8, pi_122_8, i_122_9, pi_122_9, r_122_10, r_122_11, r_122_12, j_122_13, pj_122_13, Option.bind_some, Option.bind_none, gx_bd_some, aI_lit 3, sI_lit 3]
theorem f11_full (M : mm) : fX11_full 122 (lay M) = some (-4, lay (sI M 126 2 (M.1 126 2 + 1))) := by
  simp (disch := first | omega | decide | assumption) only [fX11_full, o_122, r_122_0, r_122_1, r_122_2, i_122_3, pi_122_3, j_122_4, pj_122_4, j_122_5, pj_122_5, r_122_6, i_122_7, pi_122_7, i_122_8, pi_122_8, i_122_9, pi_122_9, r_122_10, r_122_11, r_122_12, j_122_13, pj_122_13, Option.bind_some, Option.bind_none, gx_bd_some, aI_lit 3, sI_lit 3]
theorem f11_isPlayer (M : mm) (x : Int32) : fX11_isPlayer 122 x (lay M) = some (b2 (0 ≤ x ∧ x ≤ M.1 123 3 - 1), lay M) := by
  simp (disch := first | omega | decide | assumption) only [fX11_isPlayer, o_122, r_122_0, r_122_1, r_122_2, i_122_3, pi_122_3, j_122_4, pj_122_4, j_122_5, pj_122_5, r_122_6, i_122_7, pi_122_7, i_122_8, pi_122_8, i_122_9, pi_122_9, r_122_10, r_122_11, r_122_12, j_122_13, pj_122_13, Option.bind_some, Option.bind_none, gx_bd_some, aI_lit 852, f11_in, ret_b2, show (0 : Int64) = (0 : Int32).toInt64 from rfl, b_le]
theorem f11_isLink (M : mm) (x : Int32) : fX11_isLink 122 x (lay M) = some (b2 (0 ≤ x ∧ x ≤ M.1 123 2 - 1), lay M) := by
  simp (disch := first | omega | decide | assumption) only [fX11_isLink, o_122, r_122_0, r_122_1, r_122_2, i_122_3, pi_122_3, j_122_4, pj_122_4, j_122_5, pj_122_5, r_122_6, i_122_7, pi_122_7, i_122_8, pi_122_8, i_122_9, pi_122_9, r_122_10, r_122_11, r_122_12, j_122_13, pj_122_13, Option.bind_some, Option.bind_none, gx_bd_some, aI_lit 852, f11_in, ret_b2, show (0 : Int64) = (0 : Int32).toInt64 from rfl, b_le]
theorem f11_isSide (M : mm) (x : Int32) : fX11_isSide 122 x (lay M) = some (b2 (1 ≤ x ∧ x ≤ M.1 123 1), lay M) := by
  simp (disch := first | omega | decide | assumption) only [fX11_isSide, o_122, r_122_0, r_122_1, r_122_2, i_122_3, pi_122_3, j_122_4, pj_122_4, j_122_5, pj_122_5, r_122_6, i_122_7, pi_122_7, i_122_8, pi_122_8, i_122_9, pi_122_9, r_122_10, r_122_11, r_122_12, j_122_13, pj_122_13, Option.bind_some, Option.bind_none, gx_bd_some, aI_lit 852, f11_in, ret_b2, show (1 : Int64) = (1 : Int32).toInt64 from rfl, b_le]
theorem f11_isSquare (M : mm) (x : Int32) : fX11_isSquare 122 x (lay M) = some (b2 (0 ≤ x ∧ x ≤ M.1 123 0), lay M) := by
  simp (disch := first | omega | decide | assumption) only [fX11_isSquare, o_122, r_122_0, r_122_1, r_122_2, i_122_3, pi_122_3, j_122_4, pj_122_4, j_122_5, pj_122_5, r_122_6, i_122_7, pi_122_7, i_122_8, pi_122_8, i_122_9, pi_122_9, r_122_10, r_122_11, r_122_12, j_122_13, pj_122_13, Option.bind_some, Option.bind_none, gx_bd_some, aI_lit 852, f11_in, ret_b2, show (0 : Int64) = (0 : Int32).toInt64 from rfl, b_le]
