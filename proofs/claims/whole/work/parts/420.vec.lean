/-! numbers within bounds -/
theorem t_add {x y : Int32} (h1 : -2147483648 ≤ x.toInt + y.toInt) (h2 : x.toInt + y.toInt < 2147483648) : (x + y).toInt = x.toInt + y.toInt := by
  rw [Int32.toInt_add]
  exact Int.bmod_eq_of_le (by omega) (by omega)
theorem t_sub {x y : Int32} (h1 : -2147483648 ≤ x.toInt - y.toInt) (h2 : x.toInt - y.toInt < 2147483648) : (x - y).toInt = x.toInt - y.toInt := by
  rw [Int32.toInt_sub]
  exact Int.bmod_eq_of_le (by omega) (by omega)
theorem t_mul {x y : Int32} (h1 : -2147483648 ≤ x.toInt * y.toInt) (h2 : x.toInt * y.toInt < 2147483648) : (x * y).toInt = x.toInt * y.toInt := by
  rw [Int32.toInt_mul]
  exact Int.bmod_eq_of_le (by omega) (by omega)
theorem t_inj {x y : Int32} (h : x.toInt = y.toInt) : x = y := Int32.toInt_inj.mp h
theorem t_le {x y : Int32} : x ≤ y ↔ x.toInt ≤ y.toInt := Int32.le_iff_toInt_le
theorem t_lt {x y : Int32} : x < y ↔ x.toInt < y.toInt := Int32.lt_iff_toInt_lt
def bn (x : Int32) (lo hi : Int) : Prop := lo ≤ x.toInt ∧ x.toInt ≤ hi
/-- a number from lo on, up to hi, is a place -/
theorem bn_nI {x : Int32} {n : Nat} (h : bn x 0 n) : ∃ j : Nat, j ≤ n ∧ x = nI j := by
  obtain ⟨h1, h2⟩ := h
  have h3 := Int32.toInt_lt x
  refine ⟨x.toInt.toNat, by omega, t_inj ?_⟩
  rw [nI_toInt (by omega)]
  omega
theorem nI_bn {n : Nat} {lo hi : Int} (hn : n < 2147483648) (h1 : lo ≤ n) (h2 : (n : Int) ≤ hi) : bn (nI n) lo hi := by
  unfold bn
  rw [nI_toInt (by omega)]
  exact ⟨h1, h2⟩
/-! where a kind of players goes, where a kind of links leads: as the reference has it -/
def pB (l p r : Int32) : Int32 := if p + r ≤ l then p + r else p
def hB (r : Int32) : Int32 := (r + 1) / 2
def gB (kd l p r : Int32) : Int32 :=
  if kd = 1 then (if p + r ≤ l then p + r else 2 * l - p - r)
  else if kd = 2 then pB l p (if r = 6 then 3 else r)
  else if kd = 3 then pB l p (if r = 1 then 2 else r)
  else if kd = 4 then (if p + r < l then pB l p (if r = 1 then 2 else r) else l)
  else if kd = 5 then pB l p (if hB r = 6 then 3 else hB r)
  else pB l p r
def grB (b : Int32) : Int32 := if b = 0 then 0 else b - 1
def lB (kd l a b u r : Int32) : Int32 :=
  if kd = 1 then (if u - u / 2 * 2 = 1 then a else b)
  else if kd = 2 then grB b
  else if kd = 3 then (if u < 1 then b else a)
  else if kd = 4 then (if b + r ≤ l then b + r else l)
  else if kd = 5 then (if 0 ≤ grB b - r / 3 then grB b - r / 3 else 0)
  else b
theorem f11_plain (l p r : Int32) (h : gx_H) : fX11_plain l p r h = some (pB l p r, h) := by
  unfold fX11_plain fX11_plain_14 pB
  split <;> rfl
theorem f11_timid (l p r : Int32) (h : gx_H) : fX11_timid l p r h = some (pB l p (if r = 6 then 3 else r), h) := by
  unfold fX11_timid
  split <;> rename_i c <;> simp only [c, if_true, if_false, fX11_timid_13, f11_plain, gx_bd_some]
theorem f11_cheat (l p r : Int32) (h : gx_H) : fX11_cheat l p r h = some (pB l p (if r = 1 then 2 else r), h) := by
  unfold fX11_cheat
  split <;> rename_i c <;> simp only [c, if_true, if_false, fX11_cheat_12, f11_plain, gx_bd_some]
theorem f11_goesBy (kd l p r : Int32) (h : gx_H) : fX11_goesBy kd l p r h = some (gB kd l p r, h) := by
  unfold fX11_goesBy gB
  simp only [f11_timid, f11_cheat, f11_plain, gx_bd_some, fX11_goesBy_56, fX11_goesBy_88, gx_dI, show ¬ (2 : Int32) = 0 from by decide, if_false, Option.bind_some, hB]
  split
  · split <;> rfl
  · split
    · rfl
    · split
      · rfl
      · split
        · split <;> rfl
        · split <;> rfl
theorem f11_greased (b : Int32) (h : gx_H) : fX11_greased b h = some (grB b, h) := by
  unfold fX11_greased fX11_greased_11 grB
  split <;> rfl
theorem f11_leadsBy (kd l a b u r : Int32) (h : gx_H) : fX11_leadsBy kd l a b u r h = some (lB kd l a b u r, h) := by
  unfold fX11_leadsBy lB
  simp only [f11_greased, gx_bd_some, fX11_leadsBy_49, fX11_leadsBy_66, fX11_leadsBy_83, fX11_leadsBy_109, gx_dI, gx_rI, show ¬ (2 : Int32) = 0 from by decide, show ¬ (3 : Int32) = 0 from by decide, if_false, Option.bind_some]
  repeat' split
  all_goals rfl
theorem f6_plain (p r l : Int32) (h : gx_H) : fX6_plain p r l h = some (pB l p r, h) := by
  unfold fX6_plain fX6_plain_14 pB
  split <;> rfl
theorem f6_timidly (r : Int32) (h : gx_H) : fX6_timidly r h = some (if r = 6 then 3 else r, h) := by
  unfold fX6_timidly fX6_timidly_11
  split <;> rfl
theorem f6_cheated (r : Int32) (h : gx_H) : fX6_cheated r h = some (if r = 1 then 2 else r, h) := by
  unfold fX6_cheated fX6_cheated_10
  split <;> rfl
theorem f6_square (kd p r l : Int32) (h : gx_H) : fX6_square kd p r l h = some (gB kd l p r, h) := by
  unfold fX6_square gB
  simp only [f6_timidly, f6_cheated, f6_plain, gx_bd_some, fX6_square_56, fX6_square_97, gx_dI, show ¬ (2 : Int32) = 0 from by decide, if_false, Option.bind_some, hB]
  split
  · split <;> rfl
  · split
    · rfl
    · split
      · rfl
      · split
        · split <;> rfl
        · split <;> rfl
theorem i1 : (1 : Int32).toInt = 1 := by decide
theorem i0 : (0 : Int32).toInt = 0 := by decide
/-- a throw by 3 -/
theorem r3 {r : Nat} (h1 : 1 ≤ r) (h2 : r ≤ 6) : ((nI r) / 3).toInt = ((r / 3 : Nat) : Int) := by
  rw [show (3 : Int32) = nI 3 from rfl, pk_div (by omega) (by omega) (by omega), nI_toInt (by omega)]
theorem f4_square {kd a b u l : Int32} {r : Nat} (h1 : 1 ≤ r) (h2 : r ≤ 6) (hb : bn b 0 40) (hl : bn l 10 40) (h : gx_H) : fX4_square kd a b u (nI r) l h = some (lB kd l a b u (nI r), h) := by
  unfold fX4_square lB
  simp only [fX4_square_48, fX4_square_67, gx_dI, gx_rI, show ¬ (2 : Int32) = 0 from by decide, show ¬ (3 : Int32) = 0 from by decide, if_false, Option.bind_some]
  obtain ⟨hb1, hb2⟩ := hb
  obtain ⟨hl1, hl2⟩ := hl
  have e1 : (b - 1).toInt = b.toInt - 1 := by rw [t_sub (by rw [i1]; omega) (by rw [i1]; omega), i1]
  have e3 := r3 h1 h2
  have eg : (grB b).toInt = if b.toInt = 0 then 0 else b.toInt - 1 := by
    unfold grB
    by_cases c : b = 0
    · rw [if_pos c, if_pos (by rw [c, i0]), i0]
    · rw [if_neg c, if_neg (fun q => c (t_inj (by rw [q, i0]))), e1]
  have er : (nI r).toInt = (r : Int) := nI_toInt (by omega)
  have e5 : (b - 1 - nI r / 3).toInt = b.toInt - 1 - ((r / 3 : Nat) : Int) := by rw [t_sub (by rw [e1, e3]; omega) (by rw [e1, e3]; omega), e1, e3]
  have e6 : (grB b - nI r / 3).toInt = (if b.toInt = 0 then 0 else b.toInt - 1) - ((r / 3 : Nat) : Int) := by
    rw [t_sub (by rw [eg, e3]; split <;> omega) (by rw [eg, e3]; split <;> omega), eg, e3]
  have e7 : (b + nI r).toInt = b.toInt + r := by rw [t_add (by rw [er]; omega) (by rw [er]; omega), er]
  split
  · split <;> rfl
  · split
    · refine congrArg (fun x => some (x, h)) ?_
      apply t_inj
      rw [eg]
      by_cases c : (0 : Int32) < b - 1
      · rw [if_pos c, e1]
        rw [t_lt, e1, i0] at c
        rw [if_neg (by omega)]
      · rw [if_neg c, i0]
        rw [t_lt, e1, i0] at c
        split <;> omega
    · split
      · split <;> rfl
      · split
        · refine congrArg (fun x => some (x, h)) ?_
          apply t_inj
          by_cases c : b + nI r < l
          · rw [if_pos c]
            rw [t_lt, e7] at c
            rw [if_pos (by rw [t_le, e7]; omega)]
          · rw [if_neg c]
            rw [t_lt, e7] at c
            by_cases c2 : b + nI r ≤ l
            · rw [if_pos c2, e7]
              rw [t_le, e7] at c2
              omega
            · rw [if_neg c2]
        · split
          · refine congrArg (fun x => some (x, h)) ?_
            apply t_inj
            by_cases c : (0 : Int32) < b - 1 - nI r / 3
            · rw [if_pos c, e5]
              rw [t_lt, e5, i0] at c
              rw [if_pos (by rw [t_le, e6, i0]; split <;> omega), e6, if_neg (by omega)]
            · rw [if_neg c, i0]
              rw [t_lt, e5, i0] at c
              by_cases c2 : (0 : Int32) ≤ grB b - nI r / 3
              · rw [if_pos c2, e6]
                rw [t_le, e6, i0] at c2
                split at c2 <;> rename_i c3 <;> simp only [c3, if_true, if_false] <;> omega
              · rw [if_neg c2, i0]
          · rfl
