/-! the whole object, the reference -/
section MK2
variable {l r : List gx_C}
def txtC (n : Nat) : List gx_C := .inr (7, [.int 0, .ref (n + 1), .ref (n + 9), .ref (n + 10), .int 0, .int 0, .int 0, .int 0]) :: ((brdC (n + 1) ++ [ar 1 150]) ++ [stp0])
def outC (n : Nat) : List gx_C := .inr (4, [.ref (n + 1), .ref (n + 9), .ref (n + 15), .ref (n + 16), .ref (n + 17), .ref (n + 18), .int (-1), .int (-1)]) :: (((((brdC (n + 1) ++ arS 5 (n + 10) 5 :: List.replicate 5 stp0) ++ [ar 0 41]) ++ [ar 0 5]) ++ [ar 0 36]) ++ [ar 0 36])
def gueC (n : Nat) : List gx_C := .inr (2, [.ref (n + 1)]) :: [ar 0 6]
theorem txt_len (n : Nat) : (txtC n).length = 11 := rfl
theorem out_len (n : Nat) : (outC n).length = 19 := rfl
theorem gue_len (n : Nat) : (gueC n).length = 2 := rfl
theorem mk_text : fX9_init (hl l).1 (hl (l ++ [.inr (7, [.int 0, .null, .null, .null, .int 0, .int 0, .int 0, .int 0])])) = some ((), hl (l ++ txtC (hl l).1)) := by
  unfold fX9_init
  rw [pF_0 (Nat.le_of_ble_eq_true rfl), Option.bind_some]
  rw [lt_new, mk_board, gx_bd_some, app2]
  simp only [hl_1, List.length_cons, List.length_nil, List.length_append, List.set_cons_zero, List.set_cons_succ, List.nil_append, List.cons_append, List.append_nil, Nat.zero_add, Nat.add_assoc, Nat.reduceAdd, brd_len, sen_len, his_len, gam_len]
  rw [pF_0 (Nat.le_of_ble_eq_true rfl), Option.bind_some]
  rw [lt_new, app2]
  simp only [hl_1, List.length_cons, List.length_nil, List.length_append, List.set_cons_zero, List.set_cons_succ, List.nil_append, List.cons_append, List.append_nil, Nat.zero_add, Nat.add_assoc, Nat.reduceAdd, brd_len, sen_len, his_len, gam_len]
  rw [pF_0 (Nat.le_of_ble_eq_true rfl), Option.bind_some]
  rw [lt_new, mk_step, gx_bd_some, app2]
  simp only [hl_1, List.length_cons, List.length_nil, List.length_append, List.set_cons_zero, List.set_cons_succ, List.nil_append, List.cons_append, List.append_nil, Nat.zero_add, Nat.add_assoc, Nat.reduceAdd, brd_len, sen_len, his_len, gam_len]
  rw [pF_0 (Nat.le_of_ble_eq_true rfl), Option.bind_some, pF_0 (Nat.le_of_ble_eq_true rfl), Option.bind_some, pF_0 (Nat.le_of_ble_eq_true rfl), Option.bind_some, pF_0 (Nat.le_of_ble_eq_true rfl), Option.bind_some, pF_0 (Nat.le_of_ble_eq_true rfl), Option.bind_some]
  rfl
theorem mk_out : fX5_init (hl l).1 (hl (l ++ [.inr (4, [.null, .null, .null, .null, .null, .null, .int 0, .int 0])])) = some ((), hl (l ++ outC (hl l).1)) := by
  unfold fX5_init
  rw [lt_new, mk_board, gx_bd_some, app1]
  simp only [hl_1, List.length_cons, List.length_nil, List.length_append, List.set_cons_zero, List.set_cons_succ, List.nil_append, List.cons_append, List.append_nil, Nat.zero_add, Nat.add_assoc, Nat.reduceAdd, brd_len, sen_len, his_len, gam_len]
  rw [pF_0 (Nat.le_of_ble_eq_true rfl), Option.bind_some]
  rw [mk_steps5, gx_bd_some, app2]
  simp only [hl_1, List.length_cons, List.length_nil, List.length_append, List.set_cons_zero, List.set_cons_succ, List.nil_append, List.cons_append, List.append_nil, Nat.zero_add, Nat.add_assoc, Nat.reduceAdd, brd_len, sen_len, his_len, gam_len]
  rw [pF_0 (Nat.le_of_ble_eq_true rfl), Option.bind_some]
  rw [lt_new, app2]
  simp only [hl_1, List.length_cons, List.length_nil, List.length_append, List.set_cons_zero, List.set_cons_succ, List.nil_append, List.cons_append, List.append_nil, Nat.zero_add, Nat.add_assoc, Nat.reduceAdd, brd_len, sen_len, his_len, gam_len, List.length_replicate]
  rw [pF_0 (Nat.le_of_ble_eq_true rfl), Option.bind_some]
  rw [lt_new, app2]
  simp only [hl_1, List.length_cons, List.length_nil, List.length_append, List.set_cons_zero, List.set_cons_succ, List.nil_append, List.cons_append, List.append_nil, Nat.zero_add, Nat.add_assoc, Nat.reduceAdd, brd_len, sen_len, his_len, gam_len, List.length_replicate]
  rw [pF_0 (Nat.le_of_ble_eq_true rfl), Option.bind_some]
  rw [lt_new, app2]
  simp only [hl_1, List.length_cons, List.length_nil, List.length_append, List.set_cons_zero, List.set_cons_succ, List.nil_append, List.cons_append, List.append_nil, Nat.zero_add, Nat.add_assoc, Nat.reduceAdd, brd_len, sen_len, his_len, gam_len, List.length_replicate]
  rw [pF_0 (Nat.le_of_ble_eq_true rfl), Option.bind_some]
  rw [lt_new, app2]
  simp only [hl_1, List.length_cons, List.length_nil, List.length_append, List.set_cons_zero, List.set_cons_succ, List.nil_append, List.cons_append, List.append_nil, Nat.zero_add, Nat.add_assoc, Nat.reduceAdd, brd_len, sen_len, his_len, gam_len, List.length_replicate]
  rw [pF_0 (Nat.le_of_ble_eq_true rfl), Option.bind_some]
  rw [pF_0 (Nat.le_of_ble_eq_true rfl), Option.bind_some, pF_0 (Nat.le_of_ble_eq_true rfl), Option.bind_some]
  rfl
theorem mk_guess : fX2_init (hl l).1 (hl (l ++ [.inr (2, [.null])])) = some ((), hl (l ++ gueC (hl l).1)) := by
  unfold fX2_init
  rw [lt_new, app1]
  simp only [hl_1, List.length_cons, List.length_nil, List.length_append, List.set_cons_zero, List.set_cons_succ, List.nil_append, List.cons_append, List.append_nil, Nat.zero_add, Nat.add_assoc, Nat.reduceAdd, brd_len, sen_len, his_len, gam_len]
  rw [pF_0 (Nat.le_of_ble_eq_true rfl), Option.bind_some]
  rfl
def img (a b : Nat) : gx_C := .inl (4, 2, .inr (.inr (.inr (.inr (va_up (va_up (fun _ => none) 0 (some a)) 1 (some b))))))
def slC (n : Nat) : List gx_C := .inr (8, [.ref (n + 1), .ref (n + 30), .ref (n + 89), .ref (n + 90), .ref (n + 101), .ref (n + 120), .long 0, .long 1, .int 0, .int 0, .int 0]) :: (((((gamC (n + 1) ++ img (n + 31) (n + 60) :: (gamC (n + 31) ++ gamC (n + 60))) ++ [ar 2 2]) ++ txtC (n + 90)) ++ outC (n + 101)) ++ gueC (n + 120))
theorem mk_sl : fX10_init (hl l).1 (hl (l ++ [.inr (8, [.null, .null, .null, .null, .null, .null, .long 0, .long 0, .int 0, .int 0, .int 0])])) = some ((), hl (l ++ slC (hl l).1)) := by
  unfold fX10_init
  rw [lt_new, mk_game, gx_bd_some, app1]
  simp only [hl_1, List.length_cons, List.length_nil, List.length_append, List.set_cons_zero, List.set_cons_succ, List.nil_append, List.cons_append, List.append_nil, Nat.zero_add, Nat.add_assoc, Nat.reduceAdd, brd_len, sen_len, his_len, gam_len]
  rw [pF_0 (Nat.le_of_ble_eq_true rfl), Option.bind_some]
  rw [if_neg (by decide), show ((2 : Int32)).toNatClampNeg = 2 from rfl]
  generalize hA : l ++ _ :: gamC ((hl l).1 + 1) = A
  have eA : (hl A).1 = (hl l).1 + 30 := by
    rw [← hA, hl_1, List.length_cons, gam_len]
  rw [lt_new, lt_new, mk_game, gx_bd_some]
  have i1 : ∀ (P : List gx_C) (n : Nat), gx_isO (hl (P ++ gamC n)) (hl P).1 1 = some () := fun P n => isO_0 (by decide)
  rw [i1, Option.bind_some, app1]
  have s0 : ∀ (f : Nat → Option Nat) (X : List gx_C) (w : Nat), gx_sR 4 (hl (A ++ .inl (4, 2, .inr (.inr (.inr (.inr f)))) :: X)) (hl A).1 0 w = some (hl (A ++ .inl (4, 2, .inr (.inr (.inr (.inr (va_up f 0 (some w)))))) :: X)) := fun f X w => sR_0 (j := 0) (by decide) (by decide)
  have s1 : ∀ (f : Nat → Option Nat) (X : List gx_C) (w : Nat), gx_sR 4 (hl (A ++ .inl (4, 2, .inr (.inr (.inr (.inr f)))) :: X)) (hl A).1 1 w = some (hl (A ++ .inl (4, 2, .inr (.inr (.inr (.inr (va_up f 1 (some w)))))) :: X)) := fun f X w => sR_0 (j := 1) (by decide) (by decide)
  rw [s0, Option.bind_some, lt_new, mk_game, gx_bd_some, i1, Option.bind_some, app2, s1, Option.bind_some]
  simp only [hl_1, eA, List.length_cons, List.length_nil, gam_len, Nat.zero_add, Nat.add_assoc, Nat.reduceAdd]
  rw [← hA, app2]
  rw [pF_0 (Nat.le_of_ble_eq_true rfl), Option.bind_some]
  rw [lt_new, app2]
  simp only [hl_1, List.length_cons, List.length_nil, List.length_append, List.set_cons_zero, List.set_cons_succ, List.nil_append, List.cons_append, List.append_nil, Nat.zero_add, Nat.add_assoc, Nat.reduceAdd, brd_len, sen_len, his_len, gam_len]
  rw [pF_0 (Nat.le_of_ble_eq_true rfl), Option.bind_some]
  rw [lt_new, mk_text, gx_bd_some, app2]
  simp only [hl_1, List.length_cons, List.length_nil, List.length_append, List.set_cons_zero, List.set_cons_succ, List.nil_append, List.cons_append, List.append_nil, Nat.zero_add, Nat.add_assoc, Nat.reduceAdd, brd_len, sen_len, his_len, gam_len, txt_len, out_len, gue_len]
  rw [pF_0 (Nat.le_of_ble_eq_true rfl), Option.bind_some]
  rw [lt_new, mk_out, gx_bd_some, app2]
  simp only [hl_1, List.length_cons, List.length_nil, List.length_append, List.set_cons_zero, List.set_cons_succ, List.nil_append, List.cons_append, List.append_nil, Nat.zero_add, Nat.add_assoc, Nat.reduceAdd, brd_len, sen_len, his_len, gam_len, txt_len, out_len, gue_len]
  rw [pF_0 (Nat.le_of_ble_eq_true rfl), Option.bind_some]
  rw [lt_new, mk_guess, gx_bd_some, app2]
  simp only [hl_1, List.length_cons, List.length_nil, List.length_append, List.set_cons_zero, List.set_cons_succ, List.nil_append, List.cons_append, List.append_nil, Nat.zero_add, Nat.add_assoc, Nat.reduceAdd, brd_len, sen_len, his_len, gam_len, txt_len, out_len, gue_len]
  rw [pF_0 (Nat.le_of_ble_eq_true rfl), Option.bind_some]
  rw [pF_0 (Nat.le_of_ble_eq_true rfl), Option.bind_some, pF_0 (Nat.le_of_ble_eq_true rfl), Option.bind_some, pF_0 (Nat.le_of_ble_eq_true rfl), Option.bind_some, pF_0 (Nat.le_of_ble_eq_true rfl), Option.bind_some, pF_0 (Nat.le_of_ble_eq_true rfl), Option.bind_some]
  rfl
end MK2
