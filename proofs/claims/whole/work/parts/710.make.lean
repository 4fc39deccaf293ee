/-! what the constructors make -/
def hl (l : List gx_C) : gx_H := (l.length, fun j => (l[j]?).getD gx_junk)
theorem hl_1 (l r : List gx_C) : (hl (l ++ r)).1 = (hl l).1 + r.length := List.length_append
theorem hl_new (c : gx_C) (l : List gx_C) : gx_new c (hl l) = hl (l ++ [c]) := by
  unfold gx_new hl
  refine Prod.ext (by simp) ?_
  funext j
  show va_up (fun j => (l[j]?).getD gx_junk) l.length c j = _
  unfold va_up
  by_cases e : j = l.length
  · subst e
    rw [if_pos rfl]
    simp
  · rw [if_neg e]
    show (l[j]?).getD gx_junk = ((l ++ [c])[j]?).getD gx_junk
    by_cases e2 : j < l.length
    · rw [List.getElem?_append_left e2]
    · rw [List.getElem?_eq_none (l := l) (by omega), List.getElem?_eq_none (l := l ++ [c]) (by simp; omega)]
theorem hl_at (l r : List gx_C) (c : gx_C) : (hl (l ++ c :: r)).2 (hl l).1 = c := by
  show ((l ++ c :: r)[l.length]?).getD gx_junk = c
  simp
theorem hl_up (l r : List gx_C) (c c' : gx_C) : ((hl (l ++ c :: r)).1, va_up (hl (l ++ c :: r)).2 (hl l).1 c') = hl (l ++ c' :: r) := by
  refine Prod.ext (by simp [hl]) ?_
  funext j
  show va_up (fun j => ((l ++ c :: r)[j]?).getD gx_junk) l.length c' j = ((l ++ c' :: r)[j]?).getD gx_junk
  unfold va_up
  by_cases e : j = l.length
  · subst e
    rw [if_pos rfl]
    simp
  · rw [if_neg e]
    show ((l ++ c :: r)[j]?).getD gx_junk = ((l ++ c' :: r)[j]?).getD gx_junk
    by_cases e2 : j < l.length
    · rw [List.getElem?_append_left e2, List.getElem?_append_left e2]
    · rw [List.getElem?_append_right (l₁ := l) (by omega), List.getElem?_append_right (l₁ := l) (by omega)]
      obtain ⟨i, hi⟩ : ∃ i, j - l.length = i + 1 := ⟨j - l.length - 1, by omega⟩
      rw [hi]
      rfl
section MK
variable {l r : List gx_C} {ci k : Nat} {fs : List Value} {v : Value}
theorem pF_0 (h : k < fs.length) : gx_pF (hl (l ++ .inr (ci, fs) :: r)) (hl l).1 ci k v = some (hl (l ++ .inr (ci, fs.set k v) :: r)) := by
  unfold gx_pF
  rw [hl_at]
  dsimp only
  rw [if_pos ⟨rfl, h⟩, hl_up]
theorem isO_0 (h : ci < 10) : gx_isO (hl (l ++ .inr (ci, fs) :: r)) (hl l).1 ci = some () := by
  unfold gx_isO
  rw [hl_at]
  dsimp only
  rw [if_pos ⟨rfl, h⟩]
theorem sR_0 {t n : Nat} {f : Nat → Option Nat} {j w : Nat} (hj : j < n) (hn : n ≤ 8) : gx_sR t (hl (l ++ .inl (t, n, .inr (.inr (.inr (.inr f)))) :: r)) (hl l).1 (nI j) w = some (hl (l ++ .inl (t, n, .inr (.inr (.inr (.inr (va_up f j (some w)))))) :: r)) := by
  unfold gx_sR
  rw [hl_at]
  dsimp only
  rw [if_pos ⟨rfl, nI_in hj (by omega)⟩, hl_up, cl_nI (by omega)]
theorem al_0 {t n : Nat} {z : _} (ht : t < 5) : gx_al (hl (l ++ .inl (t, n, z) :: r)) (hl l).1 = some (nI n) := by
  unfold gx_al
  rw [hl_at]
  dsimp only
  rw [if_pos ht]
  rfl
theorem lt_new {β : Type} (c : gx_C) (l : List gx_C) (f : gx_H → β) : gx_let (gx_new c (hl l)) f = f (hl (l ++ [c])) := by
  unfold gx_let
  rw [hl_new]
theorem app1 (A X : List gx_C) (c : gx_C) : (A ++ [c]) ++ X = A ++ c :: X := by simp
theorem app2 (A X Y : List gx_C) (c : gx_C) : (A ++ c :: X) ++ Y = A ++ c :: (X ++ Y) := by simp
theorem app3 (A X Y : List gx_C) : (A ++ X) ++ Y = A ++ (X ++ Y) := List.append_assoc _ _ _
def ar (t n : Nat) : gx_C := .inl (t, n, .inl (fun _ => 0))
def fk (b k : Nat) (j : Nat) : Option Nat := if j < k then some (b + j) else none
def arS (n b k : Nat) : gx_C := .inl (3, n, .inr (.inr (.inr (.inr (fk b k)))))
def stp0 : gx_C := .inr (6, [.int 0, .int 0, .int 0, .int (-1), .int 0])
def brdC (n : Nat) : List gx_C := .inr (0, [.int 20, .int 6, .int 0, .int 0, .ref (n + 1), .ref (n + 2), .ref (n + 3), .ref (n + 4), .ref (n + 5), .ref (n + 6), .ref (n + 7)]) :: [ar 0 6, ar 0 6, ar 0 6, ar 0 6, ar 0 4, ar 0 4, ar 0 4]
def senC (n : Nat) : List gx_C := .inr (5, [.int 0, .ref (n + 1), .ref (n + 2), .ref (n + 3), .ref (n + 4)]) :: [ar 0 6, ar 0 6, ar 0 6, ar 0 6]
def hisC (n : Nat) : List gx_C := .inr (3, [.int 0, .ref (n + 1)]) :: (arS 8 (n + 2) 8 :: List.replicate 8 stp0)
def gamC (n : Nat) : List gx_C := .inr (1, [.ref (n + 1), .ref (n + 9), .ref (n + 19), .ref (n + 24)]) :: (((brdC (n + 1) ++ hisC (n + 9)) ++ senC (n + 19)) ++ senC (n + 24))
theorem brd_len (n : Nat) : (brdC n).length = 8 := rfl
theorem sen_len (n : Nat) : (senC n).length = 5 := rfl
theorem his_len (n : Nat) : (hisC n).length = 10 := rfl
theorem gam_len (n : Nat) : (gamC n).length = 29 := rfl
theorem mk_step : fX8_init (hl l).1 (hl (l ++ [.inr (6, [.int 0, .int 0, .int 0, .int 0, .int 0])])) = some ((), hl (l ++ [stp0])) := by
  unfold fX8_init
  rw [pF_0 (Nat.le_of_ble_eq_true rfl), Option.bind_some, pF_0 (Nat.le_of_ble_eq_true rfl), Option.bind_some, pF_0 (Nat.le_of_ble_eq_true rfl), Option.bind_some, pF_0 (Nat.le_of_ble_eq_true rfl), Option.bind_some, pF_0 (Nat.le_of_ble_eq_true rfl), Option.bind_some]
  rfl
theorem mk_board : fX0_init (hl l).1 (hl (l ++ [.inr (0, [.int 0, .int 0, .int 0, .int 0, .null, .null, .null, .null, .null, .null, .null])])) = some ((), hl (l ++ brdC (hl l).1)) := by
  unfold fX0_init
  rw [pF_0 (Nat.le_of_ble_eq_true rfl), Option.bind_some, pF_0 (Nat.le_of_ble_eq_true rfl), Option.bind_some, pF_0 (Nat.le_of_ble_eq_true rfl), Option.bind_some, pF_0 (Nat.le_of_ble_eq_true rfl), Option.bind_some]
  rw [lt_new, app2]
  simp only [hl_1, List.length_cons, List.length_nil, List.length_append, List.set_cons_zero, List.set_cons_succ, List.nil_append, List.cons_append, List.append_nil, Nat.zero_add, Nat.add_assoc, Nat.reduceAdd, brd_len, sen_len, his_len, gam_len]
  rw [pF_0 (Nat.le_of_ble_eq_true rfl), Option.bind_some]
  rw [lt_new, app2]
  simp only [hl_1, List.length_cons, List.length_nil, List.length_append, List.set_cons_zero, List.set_cons_succ, List.nil_append, List.cons_append, List.append_nil, Nat.zero_add, Nat.add_assoc, Nat.reduceAdd, brd_len, sen_len, his_len, gam_len]
  rw [pF_0 (Nat.le_of_ble_eq_true rfl), Option.bind_some]
  rw [lt_new, app2]
  simp only [hl_1, List.length_cons, List.length_nil, List.length_append, List.set_cons_zero, List.set_cons_succ, List.nil_append, List.cons_append, List.append_nil, Nat.zero_add, Nat.add_assoc, Nat.reduceAdd, brd_len, sen_len, his_len, gam_len]
  rw [pF_0 (Nat.le_of_ble_eq_true rfl), Option.bind_some]
  rw [lt_new, app2]
  simp only [hl_1, List.length_cons, List.length_nil, List.length_append, List.set_cons_zero, List.set_cons_succ, List.nil_append, List.cons_append, List.append_nil, Nat.zero_add, Nat.add_assoc, Nat.reduceAdd, brd_len, sen_len, his_len, gam_len]
  rw [pF_0 (Nat.le_of_ble_eq_true rfl), Option.bind_some]
  rw [lt_new, app2]
  simp only [hl_1, List.length_cons, List.length_nil, List.length_append, List.set_cons_zero, List.set_cons_succ, List.nil_append, List.cons_append, List.append_nil, Nat.zero_add, Nat.add_assoc, Nat.reduceAdd, brd_len, sen_len, his_len, gam_len]
  rw [pF_0 (Nat.le_of_ble_eq_true rfl), Option.bind_some]
  rw [lt_new, app2]
  simp only [hl_1, List.length_cons, List.length_nil, List.length_append, List.set_cons_zero, List.set_cons_succ, List.nil_append, List.cons_append, List.append_nil, Nat.zero_add, Nat.add_assoc, Nat.reduceAdd, brd_len, sen_len, his_len, gam_len]
  rw [pF_0 (Nat.le_of_ble_eq_true rfl), Option.bind_some]
  rw [lt_new, app2]
  simp only [hl_1, List.length_cons, List.length_nil, List.length_append, List.set_cons_zero, List.set_cons_succ, List.nil_append, List.cons_append, List.append_nil, Nat.zero_add, Nat.add_assoc, Nat.reduceAdd, brd_len, sen_len, his_len, gam_len]
  rw [pF_0 (Nat.le_of_ble_eq_true rfl), Option.bind_some]
  rfl
theorem mk_seen : fX7_init (hl l).1 (hl (l ++ [.inr (5, [.int 0, .null, .null, .null, .null])])) = some ((), hl (l ++ senC (hl l).1)) := by
  unfold fX7_init
  rw [pF_0 (Nat.le_of_ble_eq_true rfl), Option.bind_some]
  rw [lt_new, app2]
  simp only [hl_1, List.length_cons, List.length_nil, List.length_append, List.set_cons_zero, List.set_cons_succ, List.nil_append, List.cons_append, List.append_nil, Nat.zero_add, Nat.add_assoc, Nat.reduceAdd, brd_len, sen_len, his_len, gam_len]
  rw [pF_0 (Nat.le_of_ble_eq_true rfl), Option.bind_some]
  rw [lt_new, app2]
  simp only [hl_1, List.length_cons, List.length_nil, List.length_append, List.set_cons_zero, List.set_cons_succ, List.nil_append, List.cons_append, List.append_nil, Nat.zero_add, Nat.add_assoc, Nat.reduceAdd, brd_len, sen_len, his_len, gam_len]
  rw [pF_0 (Nat.le_of_ble_eq_true rfl), Option.bind_some]
  rw [lt_new, app2]
  simp only [hl_1, List.length_cons, List.length_nil, List.length_append, List.set_cons_zero, List.set_cons_succ, List.nil_append, List.cons_append, List.append_nil, Nat.zero_add, Nat.add_assoc, Nat.reduceAdd, brd_len, sen_len, his_len, gam_len]
  rw [pF_0 (Nat.le_of_ble_eq_true rfl), Option.bind_some]
  rw [lt_new, app2]
  simp only [hl_1, List.length_cons, List.length_nil, List.length_append, List.set_cons_zero, List.set_cons_succ, List.nil_append, List.cons_append, List.append_nil, Nat.zero_add, Nat.add_assoc, Nat.reduceAdd, brd_len, sen_len, his_len, gam_len]
  rw [pF_0 (Nat.le_of_ble_eq_true rfl), Option.bind_some]
  rfl
theorem fk_s (b k : Nat) : va_up (fk b k) k (some (b + k)) = fk b (k + 1) := by
  funext j
  unfold va_up fk
  by_cases e : j = k
  · subst e
    rw [if_pos rfl, if_pos (by omega)]
  · rw [if_neg e]
    by_cases e2 : j < k
    · rw [if_pos e2, if_pos (by omega)]
    · rw [if_neg e2, if_neg (by omega)]
theorem mk_many {n : Nat} (hn : n ≤ 8) : ∀ (m k F : Nat), k + m = n → m < F → fX3_manySteps_11 F (hl l).1 (nI k) (hl (l ++ arS n ((hl l).1 + 1) k :: List.replicate k stp0)) = some ((hl l).1, hl (l ++ arS n ((hl l).1 + 1) n :: List.replicate n stp0))
  | m, k, 0, _, hF => by omega
  | 0, k, F + 1, hk, _ => by
    have e : k = n := by omega
    subst e
    show bX3_manySteps_11 (fX3_manySteps_11 F) (hl l).1 (nI k) _ = _
    unfold bX3_manySteps_11
    rw [show gx_al (hl (l ++ arS k ((hl l).1 + 1) k :: List.replicate k stp0)) (hl l).1 = some (nI k) from al_0 (by decide), Option.bind_some, if_pos (nI_le (by omega) (by omega))]
  | m + 1, k, F + 1, hk, hF => by
    show bX3_manySteps_11 (fX3_manySteps_11 F) (hl l).1 (nI k) _ = _
    unfold bX3_manySteps_11
    rw [show gx_al (hl (l ++ arS n ((hl l).1 + 1) k :: List.replicate k stp0)) (hl l).1 = some (nI n) from al_0 (by decide), Option.bind_some, if_neg (nI_ge (by omega) (by omega)), lt_new, mk_step, gx_bd_some, show gx_isO (hl ((l ++ arS n ((hl l).1 + 1) k :: List.replicate k stp0) ++ [stp0])) (hl (l ++ arS n ((hl l).1 + 1) k :: List.replicate k stp0)).1 6 = some () from isO_0 (by decide), Option.bind_some, app2]
    rw [show gx_sR 3 (hl (l ++ arS n ((hl l).1 + 1) k :: (List.replicate k stp0 ++ [stp0]))) (hl l).1 (nI k) (hl (l ++ arS n ((hl l).1 + 1) k :: List.replicate k stp0)).1 = _ from sR_0 (show k < n by omega) hn, Option.bind_some, nI_1]
    have e1 : (hl (l ++ arS n ((hl l).1 + 1) k :: List.replicate k stp0)).1 = (hl l).1 + 1 + k := by
      rw [hl_1, List.length_cons, List.length_replicate]
      omega
    rw [e1, fk_s, ← List.replicate_succ']
    exact mk_many hn m (k + 1) F (by omega) (by omega)
theorem mk_steps8 : fX3_manySteps 8 (hl l) = some ((hl l).1, hl (l ++ arS 8 ((hl l).1 + 1) 8 :: List.replicate 8 stp0)) := by
  unfold fX3_manySteps
  rw [if_neg (by decide), lt_new]
  have e : (fk ((hl l).1 + 1) 0) = (fun _ => none) := by funext j; unfold fk; rw [if_neg (by omega)]
  have h := mk_many (l := l) (n := 8) (by omega) 8 0 9 (by omega) (by omega)
  unfold arS at h
  rw [e] at h
  exact h
theorem mk_steps5 : fX3_manySteps 5 (hl l) = some ((hl l).1, hl (l ++ arS 5 ((hl l).1 + 1) 5 :: List.replicate 5 stp0)) := by
  unfold fX3_manySteps
  rw [if_neg (by decide), lt_new]
  have e : (fk ((hl l).1 + 1) 0) = (fun _ => none) := by funext j; unfold fk; rw [if_neg (by omega)]
  have h := mk_many (l := l) (n := 5) (by omega) 5 0 9 (by omega) (by omega)
  unfold arS at h
  rw [e] at h
  exact h
theorem mk_hist : fX3_init (hl l).1 (hl (l ++ [.inr (3, [.int 0, .null])])) = some ((), hl (l ++ hisC (hl l).1)) := by
  unfold fX3_init
  rw [pF_0 (Nat.le_of_ble_eq_true rfl), Option.bind_some]
  rw [mk_steps8, gx_bd_some, app2]
  simp only [hl_1, List.length_cons, List.length_nil, List.length_append, List.set_cons_zero, List.set_cons_succ, List.nil_append, List.cons_append, List.append_nil, Nat.zero_add, Nat.add_assoc, Nat.reduceAdd, brd_len, sen_len, his_len, gam_len]
  rw [pF_0 (Nat.le_of_ble_eq_true rfl), Option.bind_some]
  rfl
theorem mk_game : fX1_init (hl l).1 (hl (l ++ [.inr (1, [.null, .null, .null, .null])])) = some ((), hl (l ++ gamC (hl l).1)) := by
  unfold fX1_init
  rw [lt_new, mk_board, gx_bd_some, app1]
  simp only [hl_1, List.length_cons, List.length_nil, List.length_append, List.set_cons_zero, List.set_cons_succ, List.nil_append, List.cons_append, List.append_nil, Nat.zero_add, Nat.add_assoc, Nat.reduceAdd, brd_len, sen_len, his_len, gam_len]
  rw [pF_0 (Nat.le_of_ble_eq_true rfl), Option.bind_some]
  rw [lt_new, mk_hist, gx_bd_some, app2]
  simp only [hl_1, List.length_cons, List.length_nil, List.length_append, List.set_cons_zero, List.set_cons_succ, List.nil_append, List.cons_append, List.append_nil, Nat.zero_add, Nat.add_assoc, Nat.reduceAdd, brd_len, sen_len, his_len, gam_len]
  rw [pF_0 (Nat.le_of_ble_eq_true rfl), Option.bind_some]
  rw [lt_new, mk_seen, gx_bd_some, app2]
  simp only [hl_1, List.length_cons, List.length_nil, List.length_append, List.set_cons_zero, List.set_cons_succ, List.nil_append, List.cons_append, List.append_nil, Nat.zero_add, Nat.add_assoc, Nat.reduceAdd, brd_len, sen_len, his_len, gam_len]
  rw [pF_0 (Nat.le_of_ble_eq_true rfl), Option.bind_some]
  rw [lt_new, mk_seen, gx_bd_some, app2]
  simp only [hl_1, List.length_cons, List.length_nil, List.length_append, List.set_cons_zero, List.set_cons_succ, List.nil_append, List.cons_append, List.append_nil, Nat.zero_add, Nat.add_assoc, Nat.reduceAdd, brd_len, sen_len, his_len, gam_len]
  rw [pF_0 (Nat.le_of_ble_eq_true rfl), Option.bind_some]
  rfl
end MK
