/-! the reference made; all of it together -/
section MK3
variable {l r : List gx_C}
def w0C : gx_C := .inl (0, 852, .inl (upd (upd (fun _ => 0) 0 20) 1 6))
def refC (n : Nat) : List gx_C := .inr (9, [.ref (n + 1), .ref (n + 2), .ref (n + 3), .int 0, .long 0, .long 1, .ref (n + 4), .int 0, .int 0, .int 0, .ref (n + 5), .ref (n + 6), .ref (n + 7), .long 0]) :: [w0C, ar 2 2, ar 0 150, ar 0 3, ar 2 41, ar 0 49, ar 0 49]
theorem fR_0 {ci k x : Nat} {fs : List Value} (h : fs[k]? = some (.ref x)) : gx_fR (hl (l ++ .inr (ci, fs) :: r)) (hl l).1 ci k = some x := by
  unfold gx_fR gx_fld
  rw [hl_at]
  dsimp only
  rw [if_pos rfl, h]
theorem sI_0 {t n : Nat} {f : Nat → Int32} {j : Nat} {w : Int32} (hj : j < n) (hn : n ≤ 852) : gx_sI t (hl (l ++ .inl (t, n, .inl f) :: r)) (hl l).1 (nI j) w = some (hl (l ++ .inl (t, n, .inl (upd f j w)) :: r)) := by
  unfold gx_sI
  rw [hl_at]
  dsimp only
  rw [if_pos ⟨rfl, nI_in hj (by omega)⟩, hl_up, cl_nI (by omega)]
theorem mk_ref : fX11_init (hl l).1 (hl (l ++ [.inr (9, [.null, .null, .null, .int 0, .long 0, .long 0, .null, .int 0, .int 0, .int 0, .null, .null, .null, .long 0])])) = some ((), hl (l ++ refC (hl l).1)) := by
  unfold fX11_init
  rw [lt_new, app2]
  simp only [hl_1, List.length_cons, List.length_nil, List.length_append, List.set_cons_zero, List.set_cons_succ, List.nil_append, List.cons_append, List.append_nil, Nat.zero_add, Nat.add_assoc, Nat.reduceAdd]
  rw [pF_0 (Nat.le_of_ble_eq_true rfl), Option.bind_some]
  rw [lt_new, app2]
  simp only [hl_1, List.length_cons, List.length_nil, List.length_append, List.set_cons_zero, List.set_cons_succ, List.nil_append, List.cons_append, List.append_nil, Nat.zero_add, Nat.add_assoc, Nat.reduceAdd]
  rw [pF_0 (Nat.le_of_ble_eq_true rfl), Option.bind_some]
  rw [lt_new, app2]
  simp only [hl_1, List.length_cons, List.length_nil, List.length_append, List.set_cons_zero, List.set_cons_succ, List.nil_append, List.cons_append, List.append_nil, Nat.zero_add, Nat.add_assoc, Nat.reduceAdd]
  rw [pF_0 (Nat.le_of_ble_eq_true rfl), Option.bind_some]
  rw [pF_0 (Nat.le_of_ble_eq_true rfl), Option.bind_some, pF_0 (Nat.le_of_ble_eq_true rfl), Option.bind_some]
  rw [lt_new, app2]
  simp only [hl_1, List.length_cons, List.length_nil, List.length_append, List.set_cons_zero, List.set_cons_succ, List.nil_append, List.cons_append, List.append_nil, Nat.zero_add, Nat.add_assoc, Nat.reduceAdd]
  rw [pF_0 (Nat.le_of_ble_eq_true rfl), Option.bind_some]
  rw [lt_new, app2]
  simp only [hl_1, List.length_cons, List.length_nil, List.length_append, List.set_cons_zero, List.set_cons_succ, List.nil_append, List.cons_append, List.append_nil, Nat.zero_add, Nat.add_assoc, Nat.reduceAdd]
  rw [pF_0 (Nat.le_of_ble_eq_true rfl), Option.bind_some]
  rw [lt_new, app2]
  simp only [hl_1, List.length_cons, List.length_nil, List.length_append, List.set_cons_zero, List.set_cons_succ, List.nil_append, List.cons_append, List.append_nil, Nat.zero_add, Nat.add_assoc, Nat.reduceAdd]
  rw [pF_0 (Nat.le_of_ble_eq_true rfl), Option.bind_some]
  rw [lt_new, app2]
  simp only [hl_1, List.length_cons, List.length_nil, List.length_append, List.set_cons_zero, List.set_cons_succ, List.nil_append, List.cons_append, List.append_nil, Nat.zero_add, Nat.add_assoc, Nat.reduceAdd]
  rw [pF_0 (Nat.le_of_ble_eq_true rfl), Option.bind_some]
  simp only [List.set_cons_zero, List.set_cons_succ]
  rw [fR_0 (x := (hl l).1 + 1) rfl, Option.bind_some]
  have e1 : ∀ c : gx_C, (hl l).1 + 1 = (hl (l ++ [c])).1 := fun c => by rw [hl_1]; rfl
  have s : ∀ (c : gx_C) (f : Nat → Int32) (X : List gx_C) (j : Nat) (w : Int32), j < 852 → gx_sI 0 (hl (l ++ c :: .inl (0, 852, .inl f) :: X)) ((hl l).1 + 1) (nI j) w = some (hl (l ++ c :: .inl (0, 852, .inl (upd f j w)) :: X)) := fun c f X j w hj => by
    have h := sI_0 (l := l ++ [c]) (r := X) (t := 0) (n := 852) (f := f) (j := j) (w := w) hj (by omega)
    rw [app1, app1] at h
    rw [e1 c]
    exact h
  rw [show (0 : Int32) = nI 0 from rfl, s _ _ _ 0 _ (by omega), Option.bind_some, fR_0 (x := (hl l).1 + 1) rfl, Option.bind_some, show (1 : Int32) = nI 1 from rfl, s _ _ _ 1 _ (by omega), Option.bind_some]
  rfl
end MK3
