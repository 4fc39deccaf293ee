/-! a board's cells as one row of numbers: 0 L, 1 D, 2 links, 3 players, 4.. kinds, 10.. from, 16.. to, 22.. used, 28.. kinds of players, 32.. squares, 36.. throws -/
def cq (j : Nat) : Nat := if j < 4 then 0 else if j < 10 then 1 else if j < 16 then 2 else if j < 22 then 3 else if j < 28 then 4 else if j < 32 then 5 else if j < 36 then 6 else 7
def co (j : Nat) : Nat := if j < 4 then 0 else if j < 10 then 4 else if j < 16 then 10 else if j < 22 then 16 else if j < 28 then 22 else if j < 32 then 28 else if j < 36 then 32 else 36
def VC (C : Nat → Nat → Int32) (b j : Nat) : Int32 := C (b + cq j) (j - co j)
theorem cq_lt (j : Nat) : cq j < 8 := by unfold cq; (repeat' split) <;> omega
theorem cq_inj {i j : Nat} (h : cq i = cq j) (h2 : i - co i = j - co j) : i = j := by
  unfold cq at h
  unfold co at h2
  repeat' (split at h)
  all_goals (repeat' (split at h2)) <;> omega
def brd (b : Nat) : Prop := isC b 0 = true ∧ isA (b + 1) 0 6 = true ∧ isA (b + 2) 0 6 = true ∧ isA (b + 3) 0 6 = true ∧ isA (b + 4) 0 6 = true ∧ isA (b + 5) 0 4 = true ∧ isA (b + 6) 0 4 = true ∧ isA (b + 7) 0 4 = true
theorem brd_2 : brd 2 := by unfold brd; decide
theorem brd_32 : brd 32 := by unfold brd; decide
theorem brd_61 : brd 61 := by unfold brd; decide
theorem brd_91 : brd 91 := by unfold brd; decide
theorem brd_102 : brd 102 := by unfold brd; decide
theorem VC_0 (C : Nat → Nat → Int32) (b : Nat) {j : Nat} (h : j < 4) : VC C b j = C b j := by simp only [VC, cq, co, if_pos h]; rfl
theorem VC_1 (C : Nat → Nat → Int32) (b : Nat) {k : Nat} (h : k < 6) : VC C b (4 + k) = C (b + 1) k := by
  have e1 : cq (4 + k) = 1 := by unfold cq; (repeat' split) <;> omega
  have e2 : co (4 + k) = 4 := by unfold co; (repeat' split) <;> omega
  rw [VC, e1, e2, Nat.add_sub_cancel_left]
theorem VC_2 (C : Nat → Nat → Int32) (b : Nat) {k : Nat} (h : k < 6) : VC C b (10 + k) = C (b + 2) k := by
  have e1 : cq (10 + k) = 2 := by unfold cq; (repeat' split) <;> omega
  have e2 : co (10 + k) = 10 := by unfold co; (repeat' split) <;> omega
  rw [VC, e1, e2, Nat.add_sub_cancel_left]
theorem VC_3 (C : Nat → Nat → Int32) (b : Nat) {k : Nat} (h : k < 6) : VC C b (16 + k) = C (b + 3) k := by
  have e1 : cq (16 + k) = 3 := by unfold cq; (repeat' split) <;> omega
  have e2 : co (16 + k) = 16 := by unfold co; (repeat' split) <;> omega
  rw [VC, e1, e2, Nat.add_sub_cancel_left]
theorem VC_4 (C : Nat → Nat → Int32) (b : Nat) {k : Nat} (h : k < 6) : VC C b (22 + k) = C (b + 4) k := by
  have e1 : cq (22 + k) = 4 := by unfold cq; (repeat' split) <;> omega
  have e2 : co (22 + k) = 22 := by unfold co; (repeat' split) <;> omega
  rw [VC, e1, e2, Nat.add_sub_cancel_left]
theorem VC_5 (C : Nat → Nat → Int32) (b : Nat) {k : Nat} (h : k < 4) : VC C b (28 + k) = C (b + 5) k := by
  have e1 : cq (28 + k) = 5 := by unfold cq; (repeat' split) <;> omega
  have e2 : co (28 + k) = 28 := by unfold co; (repeat' split) <;> omega
  rw [VC, e1, e2, Nat.add_sub_cancel_left]
theorem VC_6 (C : Nat → Nat → Int32) (b : Nat) {k : Nat} (h : k < 4) : VC C b (32 + k) = C (b + 6) k := by
  have e1 : cq (32 + k) = 6 := by unfold cq; (repeat' split) <;> omega
  have e2 : co (32 + k) = 32 := by unfold co; (repeat' split) <;> omega
  rw [VC, e1, e2, Nat.add_sub_cancel_left]
theorem VC_7 (C : Nat → Nat → Int32) (b : Nat) {k : Nat} (h : k < 4) : VC C b (36 + k) = C (b + 7) k := by
  have e1 : cq (36 + k) = 7 := by unfold cq; (repeat' split) <;> omega
  have e2 : co (36 + k) = 36 := by unfold co; (repeat' split) <;> omega
  rw [VC, e1, e2, Nat.add_sub_cancel_left]
/-- a place of the row is stored -/
theorem VC_up (C : Nat → Nat → Int32) (b j : Nat) (x : Int32) : VC (up2 C (b + cq j) (j - co j) x) b = upd (VC C b) j x := by
  funext i
  by_cases e : i = j
  · subst e
    simp [VC, up2, upd]
  · rw [show upd (VC C b) j x i = VC C b i from if_neg e]
    exact up2_n C x (fun q => e (cq_inj (by omega) q.2))
theorem VC_u0 (C : Nat → Nat → Int32) (b : Nat) {j : Nat} (x : Int32) (h : j < 4) : VC (up2 C b j x) b = upd (VC C b) j x := by
  have := VC_up C b j x
  simp only [cq, co, if_pos h] at this
  exact this
theorem VC_u1 (C : Nat → Nat → Int32) (b : Nat) {k : Nat} (x : Int32) (h : k < 6) : VC (up2 C (b + 1) k x) b = upd (VC C b) (4 + k) x := by
  have e1 : cq (4 + k) = 1 := by unfold cq; (repeat' split) <;> omega
  have e2 : co (4 + k) = 4 := by unfold co; (repeat' split) <;> omega
  have := VC_up C b (4 + k) x
  rw [e1, e2, Nat.add_sub_cancel_left] at this
  exact this
theorem VC_u2 (C : Nat → Nat → Int32) (b : Nat) {k : Nat} (x : Int32) (h : k < 6) : VC (up2 C (b + 2) k x) b = upd (VC C b) (10 + k) x := by
  have e1 : cq (10 + k) = 2 := by unfold cq; (repeat' split) <;> omega
  have e2 : co (10 + k) = 10 := by unfold co; (repeat' split) <;> omega
  have := VC_up C b (10 + k) x
  rw [e1, e2, Nat.add_sub_cancel_left] at this
  exact this
theorem VC_u3 (C : Nat → Nat → Int32) (b : Nat) {k : Nat} (x : Int32) (h : k < 6) : VC (up2 C (b + 3) k x) b = upd (VC C b) (16 + k) x := by
  have e1 : cq (16 + k) = 3 := by unfold cq; (repeat' split) <;> omega
  have e2 : co (16 + k) = 16 := by unfold co; (repeat' split) <;> omega
  have := VC_up C b (16 + k) x
  rw [e1, e2, Nat.add_sub_cancel_left] at this
  exact this
theorem VC_u4 (C : Nat → Nat → Int32) (b : Nat) {k : Nat} (x : Int32) (h : k < 6) : VC (up2 C (b + 4) k x) b = upd (VC C b) (22 + k) x := by
  have e1 : cq (22 + k) = 4 := by unfold cq; (repeat' split) <;> omega
  have e2 : co (22 + k) = 22 := by unfold co; (repeat' split) <;> omega
  have := VC_up C b (22 + k) x
  rw [e1, e2, Nat.add_sub_cancel_left] at this
  exact this
theorem VC_u5 (C : Nat → Nat → Int32) (b : Nat) {k : Nat} (x : Int32) (h : k < 4) : VC (up2 C (b + 5) k x) b = upd (VC C b) (28 + k) x := by
  have e1 : cq (28 + k) = 5 := by unfold cq; (repeat' split) <;> omega
  have e2 : co (28 + k) = 28 := by unfold co; (repeat' split) <;> omega
  have := VC_up C b (28 + k) x
  rw [e1, e2, Nat.add_sub_cancel_left] at this
  exact this
theorem VC_u6 (C : Nat → Nat → Int32) (b : Nat) {k : Nat} (x : Int32) (h : k < 4) : VC (up2 C (b + 6) k x) b = upd (VC C b) (32 + k) x := by
  have e1 : cq (32 + k) = 6 := by unfold cq; (repeat' split) <;> omega
  have e2 : co (32 + k) = 32 := by unfold co; (repeat' split) <;> omega
  have := VC_up C b (32 + k) x
  rw [e1, e2, Nat.add_sub_cancel_left] at this
  exact this
theorem VC_u7 (C : Nat → Nat → Int32) (b : Nat) {k : Nat} (x : Int32) (h : k < 4) : VC (up2 C (b + 7) k x) b = upd (VC C b) (36 + k) x := by
  have e1 : cq (36 + k) = 7 := by unfold cq; (repeat' split) <;> omega
  have e2 : co (36 + k) = 36 := by unfold co; (repeat' split) <;> omega
  have := VC_up C b (36 + k) x
  rw [e1, e2, Nat.add_sub_cancel_left] at this
  exact this
theorem VC_out (C : Nat → Nat → Int32) {b c k : Nat} (x : Int32) (h : c < b ∨ b + 8 ≤ c) : VC (up2 C c k x) b = VC C b := by
  funext i
  have := cq_lt i
  exact up2_n C x (fun q => by omega)
theorem VC_eq {C C' : Nat → Nat → Int32} {b : Nat} (h : ∀ a, b ≤ a → a < b + 8 → C' a = C a) : VC C' b = VC C b := by
  funext i
  have := cq_lt i
  unfold VC
  rw [h (b + cq i) (by omega) (by omega)]
section BRD
variable {M : mm} {b : Nat}
theorem bo (hb : brd b) : gx_isO (lay M) b 0 = some () := isO_lay hb.1 (by decide)
theorem bi0 (hb : brd b) : gx_fI (lay M) b 0 0 = some (M.1 b 0) := fI_lay (kd_0_0 hb.1)
theorem bi1 (hb : brd b) : gx_fI (lay M) b 0 1 = some (M.1 b 1) := fI_lay (kd_0_1 hb.1)
theorem bi2 (hb : brd b) : gx_fI (lay M) b 0 2 = some (M.1 b 2) := fI_lay (kd_0_2 hb.1)
theorem bi3 (hb : brd b) : gx_fI (lay M) b 0 3 = some (M.1 b 3) := fI_lay (kd_0_3 hb.1)
theorem bp0 (hb : brd b) {x : Int32} : gx_pF (lay M) b 0 0 (.int x) = some (lay (sI M b 0 x)) := pI_lay (kd_0_0 hb.1)
theorem bp1 (hb : brd b) {x : Int32} : gx_pF (lay M) b 0 1 (.int x) = some (lay (sI M b 1 x)) := pI_lay (kd_0_1 hb.1)
theorem bp2 (hb : brd b) {x : Int32} : gx_pF (lay M) b 0 2 (.int x) = some (lay (sI M b 2 x)) := pI_lay (kd_0_2 hb.1)
theorem bp3 (hb : brd b) {x : Int32} : gx_pF (lay M) b 0 3 (.int x) = some (lay (sI M b 3 x)) := pI_lay (kd_0_3 hb.1)
theorem br4 (hb : brd b) : gx_fR (lay M) b 0 4 = some (b + 1) := fR_lay (kd_0_4 hb.1)
theorem br5 (hb : brd b) : gx_fR (lay M) b 0 5 = some (b + 2) := fR_lay (kd_0_5 hb.1)
theorem br6 (hb : brd b) : gx_fR (lay M) b 0 6 = some (b + 3) := fR_lay (kd_0_6 hb.1)
theorem br7 (hb : brd b) : gx_fR (lay M) b 0 7 = some (b + 4) := fR_lay (kd_0_7 hb.1)
theorem br8 (hb : brd b) : gx_fR (lay M) b 0 8 = some (b + 5) := fR_lay (kd_0_8 hb.1)
theorem br9 (hb : brd b) : gx_fR (lay M) b 0 9 = some (b + 6) := fR_lay (kd_0_9 hb.1)
theorem br10 (hb : brd b) : gx_fR (lay M) b 0 10 = some (b + 7) := fR_lay (kd_0_10 hb.1)
theorem ba1 (hb : brd b) {k : Nat} (h : k < 6) : gx_aI 0 (lay M) (b + 1) (nI k) = some (M.1 (b + 1) k) := aI_lay 6 hb.2.1 (by decide) h (by decide)
theorem ba2 (hb : brd b) {k : Nat} (h : k < 6) : gx_aI 0 (lay M) (b + 2) (nI k) = some (M.1 (b + 2) k) := aI_lay 6 hb.2.2.1 (by decide) h (by decide)
theorem ba3 (hb : brd b) {k : Nat} (h : k < 6) : gx_aI 0 (lay M) (b + 3) (nI k) = some (M.1 (b + 3) k) := aI_lay 6 hb.2.2.2.1 (by decide) h (by decide)
theorem ba4 (hb : brd b) {k : Nat} (h : k < 6) : gx_aI 0 (lay M) (b + 4) (nI k) = some (M.1 (b + 4) k) := aI_lay 6 hb.2.2.2.2.1 (by decide) h (by decide)
theorem ba5 (hb : brd b) {k : Nat} (h : k < 4) : gx_aI 0 (lay M) (b + 5) (nI k) = some (M.1 (b + 5) k) := aI_lay 4 hb.2.2.2.2.2.1 (by decide) h (by decide)
theorem ba6 (hb : brd b) {k : Nat} (h : k < 4) : gx_aI 0 (lay M) (b + 6) (nI k) = some (M.1 (b + 6) k) := aI_lay 4 hb.2.2.2.2.2.2.1 (by decide) h (by decide)
theorem ba7 (hb : brd b) {k : Nat} (h : k < 4) : gx_aI 0 (lay M) (b + 7) (nI k) = some (M.1 (b + 7) k) := aI_lay 4 hb.2.2.2.2.2.2.2 (by decide) h (by decide)
theorem bs1 (hb : brd b) {k : Nat} {x : Int32} (h : k < 6) : gx_sI 0 (lay M) (b + 1) (nI k) x = some (lay (sI M (b + 1) k x)) := sI_lay 6 hb.2.1 (by decide) h (by decide)
theorem bs2 (hb : brd b) {k : Nat} {x : Int32} (h : k < 6) : gx_sI 0 (lay M) (b + 2) (nI k) x = some (lay (sI M (b + 2) k x)) := sI_lay 6 hb.2.2.1 (by decide) h (by decide)
theorem bs3 (hb : brd b) {k : Nat} {x : Int32} (h : k < 6) : gx_sI 0 (lay M) (b + 3) (nI k) x = some (lay (sI M (b + 3) k x)) := sI_lay 6 hb.2.2.2.1 (by decide) h (by decide)
theorem bs4 (hb : brd b) {k : Nat} {x : Int32} (h : k < 6) : gx_sI 0 (lay M) (b + 4) (nI k) x = some (lay (sI M (b + 4) k x)) := sI_lay 6 hb.2.2.2.2.1 (by decide) h (by decide)
theorem bs5 (hb : brd b) {k : Nat} {x : Int32} (h : k < 4) : gx_sI 0 (lay M) (b + 5) (nI k) x = some (lay (sI M (b + 5) k x)) := sI_lay 4 hb.2.2.2.2.2.1 (by decide) h (by decide)
theorem bs6 (hb : brd b) {k : Nat} {x : Int32} (h : k < 4) : gx_sI 0 (lay M) (b + 6) (nI k) x = some (lay (sI M (b + 6) k x)) := sI_lay 4 hb.2.2.2.2.2.2.1 (by decide) h (by decide)
theorem bs7 (hb : brd b) {k : Nat} {x : Int32} (h : k < 4) : gx_sI 0 (lay M) (b + 7) (nI k) x = some (lay (sI M (b + 7) k x)) := sI_lay 4 hb.2.2.2.2.2.2.2 (by decide) h (by decide)
/-! the first of the places from k on, m at most, at which f holds p -/
def lkG (f : Nat → Int32) (p : Int32) : Nat → Nat → Option Nat
  | 0, _ => none
  | m + 1, k => if f k = p then some k else lkG f p m (k + 1)
def lkI : Option Nat → Int32
  | none => -1
  | some k => nI k
theorem lkG_some {f : Nat → Int32} {p : Int32} : ∀ {m k j : Nat}, lkG f p m k = some j → k ≤ j ∧ j < k + m ∧ f j = p
  | 0, k, j, h => by cases h
  | m + 1, k, j, h => by
    unfold lkG at h
    split at h
    · rename_i c
      cases h
      exact ⟨Nat.le_refl _, by omega, c⟩
    · obtain ⟨h1, h2, h3⟩ := lkG_some h
      exact ⟨by omega, by omega, h3⟩
theorem lkG_eq {f g : Nat → Int32} {p : Int32} : ∀ {m k : Nat}, (∀ j, k ≤ j → j < k + m → f j = g j) → lkG f p m k = lkG g p m k
  | 0, k, _ => rfl
  | m + 1, k, h => by
    unfold lkG
    rw [h k (Nat.le_refl _) (by omega), lkG_eq (m := m) (k := k + 1) (fun j h1 h2 => h j (by omega) (by omega))]
theorem lkI_some {k : Nat} (h : k < 2147483648) : ¬ nI k = -1 := fun q => by
  have := congrArg Int32.toInt q
  rw [nI_toInt (by omega)] at this
  have e : (-1 : Int32).toInt = -1 := by decide
  omega
theorem c_linkOn_l (hb : brd b) (p : Int32) {n : Nat} (hn : M.1 b 2 = nI n) (h6 : n ≤ 6) : ∀ (m k F : Nat), k + m = n → m < F → fX0_linkOn_2 F b p (nI k) (lay M) = some (lkI (lkG (M.1 (b + 2)) p m k), lay M)
  | m, k, 0, _, hF => by omega
  | 0, k, F + 1, hk, _ => by
    show bX0_linkOn_2 (fX0_linkOn_2 F) b p (nI k) (lay M) = _
    unfold bX0_linkOn_2
    simp only [bi2 hb, hn, Option.bind_some]
    rw [if_pos (nI_le (by omega) (by omega))]
    rfl
  | m + 1, k, F + 1, hk, hF => by
    show bX0_linkOn_2 (fX0_linkOn_2 F) b p (nI k) (lay M) = _
    unfold bX0_linkOn_2
    simp only [bi2 hb, hn, Option.bind_some, br5 hb, ba2 hb (show k < 6 by omega)]
    rw [if_neg (nI_ge (by omega) (by omega))]
    unfold lkG
    split
    · rfl
    · rw [nI_1]
      exact c_linkOn_l hb p hn h6 m (k + 1) F (by omega) (by omega)
theorem c_linkOn (hb : brd b) (p : Int32) {n : Nat} (hn : M.1 b 2 = nI n) (h6 : n ≤ 6) : fX0_linkOn b p (lay M) = some (lkI (lkG (M.1 (b + 2)) p n 0), lay M) := by
  unfold fX0_linkOn
  rw [bo hb, Option.bind_some]
  exact c_linkOn_l hb p hn h6 n 0 gx_N (by omega) (by unfold gx_N; omega)
theorem c_isHome (hb : brd b) {i : Nat} (hi : i < 4) : fX0_isHome b (nI i) (lay M) = some (b2 (M.1 (b + 6) i = M.1 b 0), lay M) := by
  unfold fX0_isHome fX0_isHome_18
  simp only [bo hb, br9 hb, ba6 hb hi, bi0 hb, Option.bind_some]
  unfold b2
  split <;> rfl
end BRD
