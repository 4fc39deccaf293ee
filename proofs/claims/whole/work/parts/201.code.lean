theorem dX1_dropPast_0 : decode cX1_dropPast 0 = .ok (.aload_n 0, 1) := by decide +kernel
theorem dX1_dropPast_1 : decode cX1_dropPast 1 = .ok (.getfield 19, 3) := by decide +kernel
theorem dX1_dropPast_4 : decode cX1_dropPast 4 = .ok (.invokevirtual 33, 3) := by decide +kernel
theorem dX1_dropPast_7 : decode cX1_dropPast 7 = .ok (.aload_n 0, 1) := by decide +kernel
theorem dX1_dropPast_8 : decode cX1_dropPast 8 = .ok (.getfield 26, 3) := by decide +kernel
theorem dX1_dropPast_11 : decode cX1_dropPast 11 = .ok (.invokevirtual 36, 3) := by decide +kernel
theorem dX1_dropPast_14 : decode cX1_dropPast 14 = .ok (.pop, 1) := by decide +kernel
theorem dX1_dropPast_15 : decode cX1_dropPast 15 = .ok (.aload_n 0, 1) := by decide +kernel
theorem dX1_dropPast_16 : decode cX1_dropPast 16 = .ok (.getfield 30, 3) := by decide +kernel
theorem dX1_dropPast_19 : decode cX1_dropPast 19 = .ok (.invokevirtual 36, 3) := by decide +kernel
theorem dX1_dropPast_22 : decode cX1_dropPast 22 = .ok (.pop, 1) := by decide +kernel
theorem dX1_dropPast_23 : decode cX1_dropPast 23 = .ok (.return_, 1) := by decide +kernel
def fX1_dropPast (v0 : Nat) (h : gx_H) : Option (Unit × gx_H) :=
  (gx_isO h v0 1).bind fun _ =>
  (gx_fR h v0 1 1).bind fun a1 =>
  gx_bd (fX3_empty a1 h) fun u3 h2 =>
  (gx_fR h2 v0 1 2).bind fun a4 =>
  gx_bd (fX7_empty a4 h2) fun x6 h5 =>
  (gx_fR h5 v0 1 3).bind fun a7 =>
  gx_bd (fX7_empty a7 h5) fun x9 h8 =>
  some ((), h8)
set_option maxRecDepth 100000 in
set_option maxHeartbeats 4000000 in
theorem geX1_dropPast {E : gx_Env} {d : Nat} (v0 : Nat) (h : gx_H) : gx_G E RX1 cX1_dropPast 1 none false (d + 1) 0 0 0 [some (.ref v0)] [] h (fun _ : Unit => none) (fX1_dropPast v0 h) := by
  unfold fX1_dropPast
  refine gx_bind fun _ _ => ?_
  refine gx_aload_n 0 dX1_dropPast_0 rfl rfl ?_
  refine gx_getR kf_RX1_19 dX1_dropPast_1 (fun a1 => ?_)
  refine gx_callV (ci := 3) (bc := 0) (bs := 0) (mc := 0) (ms := 0) (em' := (fun _ : Unit => none)) [] kc_RX1_33 rfl dX1_dropPast_4 rfl rfl (gx_w8 rfl) (fun x q => (gx_isO_of (by unfold fX3_empty at q; exact q)).2) (fun _ _ q => okX3_empty d q) (fun u3 h2 => ?_)
  refine gx_aload_n 0 dX1_dropPast_7 rfl rfl ?_
  refine gx_getR kf_RX1_26 dX1_dropPast_8 (fun a4 => ?_)
  refine gx_callV (ci := 5) (bc := 0) (bs := 0) (mc := 0) (ms := 0) (em' := (fun x : Int32 => some (.int x))) [] kc_RX1_36 rfl dX1_dropPast_11 rfl rfl (gx_w8 rfl) (fun x q => (gx_isO_of (by unfold fX7_empty at q; exact q)).2) (fun _ _ q => okX7_empty d q) (fun x6 h5 => ?_)
  refine gx_pop dX1_dropPast_14 rfl ?_
  refine gx_aload_n 0 dX1_dropPast_15 rfl rfl ?_
  refine gx_getR kf_RX1_30 dX1_dropPast_16 (fun a7 => ?_)
  refine gx_callV (ci := 5) (bc := 0) (bs := 0) (mc := 0) (ms := 0) (em' := (fun x : Int32 => some (.int x))) [] kc_RX1_36 rfl dX1_dropPast_19 rfl rfl (gx_w8 rfl) (fun x q => (gx_isO_of (by unfold fX7_empty at q; exact q)).2) (fun _ _ q => okX7_empty d q) (fun x9 h8 => ?_)
  refine gx_pop dX1_dropPast_22 rfl ?_
  exact gx_vret dX1_dropPast_23 rfl
theorem okX1_dropPast {E : gx_Env} (d : Nat) {v0 : Nat} {h : gx_H} {r : Unit} {h1 : gx_H} (q : fX1_dropPast v0 h = some (r, h1)) : gx_M E yX1_dropPast cX1_dropPast 1 none (d + 1) 0 0 [.ref v0] h ((fun _ : Unit => none) r) h1 := gx_meth (y := yX1_dropPast) (cc := cX1_dropPast) (nL := 1) (em := (fun _ : Unit => none)) (ini := false) [.ref v0] (by decide) (by simp [gx_sl]) (fun q => by cases q) (geX1_dropPast v0 h) q
theorem dX8_copy_0 : decode cX8_copy 0 = .ok (.aload_n 0, 1) := by decide +kernel
theorem dX8_copy_1 : decode cX8_copy 1 = .ok (.aload_n 1, 1) := by decide +kernel
theorem dX8_copy_2 : decode cX8_copy 2 = .ok (.getfield 9, 3) := by decide +kernel
theorem dX8_copy_5 : decode cX8_copy 5 = .ok (.putfield 9, 3) := by decide +kernel
theorem dX8_copy_8 : decode cX8_copy 8 = .ok (.aload_n 0, 1) := by decide +kernel
theorem dX8_copy_9 : decode cX8_copy 9 = .ok (.aload_n 1, 1) := by decide +kernel
theorem dX8_copy_10 : decode cX8_copy 10 = .ok (.getfield 15, 3) := by decide +kernel
theorem dX8_copy_13 : decode cX8_copy 13 = .ok (.putfield 15, 3) := by decide +kernel
theorem dX8_copy_16 : decode cX8_copy 16 = .ok (.aload_n 0, 1) := by decide +kernel
theorem dX8_copy_17 : decode cX8_copy 17 = .ok (.aload_n 1, 1) := by decide +kernel
theorem dX8_copy_18 : decode cX8_copy 18 = .ok (.getfield 18, 3) := by decide +kernel
theorem dX8_copy_21 : decode cX8_copy 21 = .ok (.putfield 18, 3) := by decide +kernel
theorem dX8_copy_24 : decode cX8_copy 24 = .ok (.aload_n 0, 1) := by decide +kernel
theorem dX8_copy_25 : decode cX8_copy 25 = .ok (.aload_n 1, 1) := by decide +kernel
theorem dX8_copy_26 : decode cX8_copy 26 = .ok (.getfield 21, 3) := by decide +kernel
theorem dX8_copy_29 : decode cX8_copy 29 = .ok (.putfield 21, 3) := by decide +kernel
theorem dX8_copy_32 : decode cX8_copy 32 = .ok (.aload_n 0, 1) := by decide +kernel
theorem dX8_copy_33 : decode cX8_copy 33 = .ok (.aload_n 1, 1) := by decide +kernel
theorem dX8_copy_34 : decode cX8_copy 34 = .ok (.getfield 24, 3) := by decide +kernel
theorem dX8_copy_37 : decode cX8_copy 37 = .ok (.putfield 24, 3) := by decide +kernel
theorem dX8_copy_40 : decode cX8_copy 40 = .ok (.return_, 1) := by decide +kernel
def fX8_copy (v0 : Nat) (v1 : Nat) (h : gx_H) : Option (Unit × gx_H) :=
  (gx_isO h v0 6).bind fun _ =>
  (gx_fI h v1 6 0).bind fun x1 =>
  (gx_pF h v0 6 0 (.int x1)).bind fun h2 =>
  (gx_fI h2 v1 6 1).bind fun x3 =>
  (gx_pF h2 v0 6 1 (.int x3)).bind fun h4 =>
  (gx_fI h4 v1 6 2).bind fun x5 =>
  (gx_pF h4 v0 6 2 (.int x5)).bind fun h6 =>
  (gx_fI h6 v1 6 3).bind fun x7 =>
  (gx_pF h6 v0 6 3 (.int x7)).bind fun h8 =>
  (gx_fI h8 v1 6 4).bind fun x9 =>
  (gx_pF h8 v0 6 4 (.int x9)).bind fun h10 =>
  some ((), h10)
set_option maxRecDepth 100000 in
set_option maxHeartbeats 4000000 in
theorem geX8_copy {E : gx_Env} {d : Nat} (v0 : Nat) (v1 : Nat) (h : gx_H) : gx_G E RX8 cX8_copy 2 none false d 0 0 0 [some (.ref v0), some (.ref v1)] [] h (fun _ : Unit => none) (fX8_copy v0 v1 h) := by
  unfold fX8_copy
  refine gx_bind fun _ _ => ?_
  refine gx_aload_n 0 dX8_copy_0 rfl rfl ?_
  refine gx_aload_n 1 dX8_copy_1 rfl rfl ?_
  refine gx_getI kf_RX8_9 dX8_copy_2 (fun x1 => ?_)
  refine gx_putI kp_RX8_9 (fun q => by cases q) dX8_copy_5 (fun h2 => ?_)
  refine gx_aload_n 0 dX8_copy_8 rfl rfl ?_
  refine gx_aload_n 1 dX8_copy_9 rfl rfl ?_
  refine gx_getI kf_RX8_15 dX8_copy_10 (fun x3 => ?_)
  refine gx_putI kp_RX8_15 (fun q => by cases q) dX8_copy_13 (fun h4 => ?_)
  refine gx_aload_n 0 dX8_copy_16 rfl rfl ?_
  refine gx_aload_n 1 dX8_copy_17 rfl rfl ?_
  refine gx_getI kf_RX8_18 dX8_copy_18 (fun x5 => ?_)
  refine gx_putI kp_RX8_18 (fun q => by cases q) dX8_copy_21 (fun h6 => ?_)
  refine gx_aload_n 0 dX8_copy_24 rfl rfl ?_
  refine gx_aload_n 1 dX8_copy_25 rfl rfl ?_
  refine gx_getI kf_RX8_21 dX8_copy_26 (fun x7 => ?_)
  refine gx_putI kp_RX8_21 (fun q => by cases q) dX8_copy_29 (fun h8 => ?_)
  refine gx_aload_n 0 dX8_copy_32 rfl rfl ?_
  refine gx_aload_n 1 dX8_copy_33 rfl rfl ?_
  refine gx_getI kf_RX8_24 dX8_copy_34 (fun x9 => ?_)
  refine gx_putI kp_RX8_24 (fun q => by cases q) dX8_copy_37 (fun h10 => ?_)
  exact gx_vret dX8_copy_40 rfl
theorem okX8_copy {E : gx_Env} (d : Nat) {v0 : Nat} {v1 : Nat} {h : gx_H} {r : Unit} {h1 : gx_H} (q : fX8_copy v0 v1 h = some (r, h1)) : gx_M E yX8_copy cX8_copy 2 none d 0 0 [.ref v0, .ref v1] h ((fun _ : Unit => none) r) h1 := gx_meth (y := yX8_copy) (cc := cX8_copy) (nL := 2) (em := (fun _ : Unit => none)) (ini := false) [.ref v0, .ref v1] (by decide) (by simp [gx_sl]) (fun q => by cases q) (geX8_copy v0 v1 h) q
theorem dX3_copy_0 : decode cX3_copy 0 = .ok (.aload_n 0, 1) := by decide +kernel
theorem dX3_copy_1 : decode cX3_copy 1 = .ok (.aload_n 1, 1) := by decide +kernel
theorem dX3_copy_2 : decode cX3_copy 2 = .ok (.getfield 9, 3) := by decide +kernel
theorem dX3_copy_5 : decode cX3_copy 5 = .ok (.putfield 9, 3) := by decide +kernel
theorem dX3_copy_8 : decode cX3_copy 8 = .ok (.iconst 0, 1) := by decide +kernel
theorem dX3_copy_9 : decode cX3_copy 9 = .ok (.istore_n 2, 1) := by decide +kernel
theorem dX3_copy_10 : decode cX3_copy 10 = .ok (.iload_n 2, 1) := by decide +kernel
theorem dX3_copy_11 : decode cX3_copy 11 = .ok (.bipush 8, 2) := by decide +kernel
theorem dX3_copy_13 : decode cX3_copy 13 = .ok (.if_icmp .ge 24, 3) := by decide +kernel
theorem dX3_copy_16 : decode cX3_copy 16 = .ok (.aload_n 0, 1) := by decide +kernel
theorem dX3_copy_17 : decode cX3_copy 17 = .ok (.getfield 19, 3) := by decide +kernel
theorem dX3_copy_20 : decode cX3_copy 20 = .ok (.iload_n 2, 1) := by decide +kernel
theorem dX3_copy_21 : decode cX3_copy 21 = .ok (.aaload, 1) := by decide +kernel
theorem dX3_copy_22 : decode cX3_copy 22 = .ok (.aload_n 1, 1) := by decide +kernel
theorem dX3_copy_23 : decode cX3_copy 23 = .ok (.getfield 19, 3) := by decide +kernel
theorem dX3_copy_26 : decode cX3_copy 26 = .ok (.iload_n 2, 1) := by decide +kernel
theorem dX3_copy_27 : decode cX3_copy 27 = .ok (.aaload, 1) := by decide +kernel
theorem dX3_copy_28 : decode cX3_copy 28 = .ok (.invokevirtual 41, 3) := by decide +kernel
theorem dX3_copy_31 : decode cX3_copy 31 = .ok (.iinc 2 1, 3) := by decide +kernel
theorem dX3_copy_34 : decode cX3_copy 34 = .ok (.goto (-24), 3) := by decide +kernel
theorem dX3_copy_37 : decode cX3_copy 37 = .ok (.return_, 1) := by decide +kernel
def bX3_copy_10 (k10 : Nat → Nat → Int32 → gx_H → Option (Unit × gx_H)) (v0 : Nat) (v1 : Nat) (v2 : Int32) (h : gx_H) : Option (Unit × gx_H) :=
  if (8 : Int32) ≤ v2 then
    some ((), h)
  else
    (gx_fR h v0 3 1).bind fun a3 =>
    (gx_aR 3 h a3 v2).bind fun a4 =>
    (gx_fR h v1 3 1).bind fun a5 =>
    (gx_aR 3 h a5 v2).bind fun a6 =>
    gx_bd (fX8_copy a4 a6 h) fun u8 h7 =>
    k10 v0 v1 (v2 + (1 : Int32)) h7
def fX3_copy_10 : Nat → Nat → Nat → Int32 → gx_H → Option (Unit × gx_H)
  | 0 => fun _ _ _ _ => none
  | n + 1 => bX3_copy_10 (fX3_copy_10 n)
def fX3_copy (v0 : Nat) (v1 : Nat) (h : gx_H) : Option (Unit × gx_H) :=
  (gx_isO h v0 3).bind fun _ =>
  (gx_fI h v1 3 0).bind fun x1 =>
  (gx_pF h v0 3 0 (.int x1)).bind fun h2 =>
  fX3_copy_10 gx_N v0 v1 (0 : Int32) h2
set_option maxRecDepth 100000 in
set_option maxHeartbeats 4000000 in
theorem gbX3_copy_10 {E : gx_Env} {d : Nat}  (k10 : Nat → Nat → Int32 → gx_H → Option (Unit × gx_H)) (hk10 : ∀ (v0 : Nat) (v1 : Nat) (v2 : Int32) (h : gx_H), gx_G E RX3 cX3_copy 3 none false (d + 1) 0 0 10 [some (.ref v0), some (.ref v1), some (.int v2)] [] h (fun _ : Unit => none) (k10 v0 v1 v2 h))  : ∀ (v0 : Nat) (v1 : Nat) (v2 : Int32) (h : gx_H), gx_G E RX3 cX3_copy 3 none false (d + 1) 0 0 10 [some (.ref v0), some (.ref v1), some (.int v2)] [] h (fun _ : Unit => none) (bX3_copy_10 k10 v0 v1 v2 h) := by
  intro v0 v1 v2 h
  unfold bX3_copy_10
  refine gx_iload_n 2 dX3_copy_10 rfl rfl ?_
  refine gx_bipush (8 : Int32) dX3_copy_11 (by decide) ?_
  refine gx_icmp_ge 37 dX3_copy_13 (by decide) (fun _ => ?_) (fun _ => ?_)
  · exact gx_vret dX3_copy_37 rfl
  · refine gx_aload_n 0 dX3_copy_16 rfl rfl ?_
    refine gx_getR kf_RX3_19 dX3_copy_17 (fun a3 => ?_)
    refine gx_iload_n 2 dX3_copy_20 rfl rfl ?_
    refine gx_aald3 dX3_copy_21 (fun a4 => ?_)
    refine gx_aload_n 1 dX3_copy_22 rfl rfl ?_
    refine gx_getR kf_RX3_19 dX3_copy_23 (fun a5 => ?_)
    refine gx_iload_n 2 dX3_copy_26 rfl rfl ?_
    refine gx_aald3 dX3_copy_27 (fun a6 => ?_)
    refine gx_callV (ci := 6) (bc := 0) (bs := 0) (mc := 0) (ms := 0) (em' := (fun _ : Unit => none)) [.ref a6] kc_RX3_41 rfl dX3_copy_28 rfl rfl (gx_w8 rfl) (fun x q => (gx_isO_of (by unfold fX8_copy at q; exact q)).2) (fun _ _ q => okX8_copy d q) (fun u8 h7 => ?_)
    refine gx_iinc (1 : Int32) [some (.ref v0), some (.ref v1), some (.int (v2 + (1 : Int32)))] dX3_copy_31 rfl (by decide) (by decide) rfl ?_
    refine gx_goto 10 dX3_copy_34 (by decide) ?_
    exact gx_sub (hk10 v0 v1 (v2 + (1 : Int32)) h7) (And.intro rfl (And.intro rfl (And.intro rfl True.intro)))
set_option maxRecDepth 100000 in
set_option maxHeartbeats 4000000 in
theorem gX3_copy_10 {E : gx_Env} {d : Nat}  : ∀ (n : Nat) (v0 : Nat) (v1 : Nat) (v2 : Int32) (h : gx_H), gx_G E RX3 cX3_copy 3 none false (d + 1) 0 0 10 [some (.ref v0), some (.ref v1), some (.int v2)] [] h (fun _ : Unit => none) (fX3_copy_10 n v0 v1 v2 h) := by
  intro n
  induction n with
  | zero => intro v0 v1 v2 h; exact gx_none
  | succ n ih => exact gbX3_copy_10  (fX3_copy_10  n) ih
set_option maxRecDepth 100000 in
set_option maxHeartbeats 4000000 in
theorem geX3_copy {E : gx_Env} {d : Nat} (v0 : Nat) (v1 : Nat) (h : gx_H) : gx_G E RX3 cX3_copy 3 none false (d + 1) 0 0 0 [some (.ref v0), some (.ref v1), none] [] h (fun _ : Unit => none) (fX3_copy v0 v1 h) := by
  unfold fX3_copy
  refine gx_bind fun _ _ => ?_
  refine gx_aload_n 0 dX3_copy_0 rfl rfl ?_
  refine gx_aload_n 1 dX3_copy_1 rfl rfl ?_
  refine gx_getI kf_RX3_9 dX3_copy_2 (fun x1 => ?_)
  refine gx_putI kp_RX3_9 (fun q => by cases q) dX3_copy_5 (fun h2 => ?_)
  refine gx_iconst (0 : Int32) dX3_copy_8 (by decide) ?_
  refine gx_istore_n 2 [some (.ref v0), some (.ref v1), some (.int (0 : Int32))] dX3_copy_9 rfl (by decide) rfl ?_
  exact gx_sub (gX3_copy_10 gx_N v0 v1 (0 : Int32) h2) (And.intro rfl (And.intro rfl (And.intro rfl True.intro)))
theorem okX3_copy {E : gx_Env} (d : Nat) {v0 : Nat} {v1 : Nat} {h : gx_H} {r : Unit} {h1 : gx_H} (q : fX3_copy v0 v1 h = some (r, h1)) : gx_M E yX3_copy cX3_copy 3 none (d + 1) 0 0 [.ref v0, .ref v1] h ((fun _ : Unit => none) r) h1 := gx_meth (y := yX3_copy) (cc := cX3_copy) (nL := 3) (em := (fun _ : Unit => none)) (ini := false) [.ref v0, .ref v1] (by decide) (by simp [gx_sl]) (fun q => by cases q) (geX3_copy v0 v1 h) q
theorem dX7_copy_0 : decode cX7_copy 0 = .ok (.aload_n 0, 1) := by decide +kernel
theorem dX7_copy_1 : decode cX7_copy 1 = .ok (.aload_n 1, 1) := by decide +kernel
theorem dX7_copy_2 : decode cX7_copy 2 = .ok (.getfield 9, 3) := by decide +kernel
theorem dX7_copy_5 : decode cX7_copy 5 = .ok (.putfield 9, 3) := by decide +kernel
theorem dX7_copy_8 : decode cX7_copy 8 = .ok (.iconst 0, 1) := by decide +kernel
theorem dX7_copy_9 : decode cX7_copy 9 = .ok (.istore_n 2, 1) := by decide +kernel
theorem dX7_copy_10 : decode cX7_copy 10 = .ok (.iload_n 2, 1) := by decide +kernel
theorem dX7_copy_11 : decode cX7_copy 11 = .ok (.bipush 6, 2) := by decide +kernel
theorem dX7_copy_13 : decode cX7_copy 13 = .ok (.if_icmp .ge 57, 3) := by decide +kernel
theorem dX7_copy_16 : decode cX7_copy 16 = .ok (.aload_n 0, 1) := by decide +kernel
theorem dX7_copy_17 : decode cX7_copy 17 = .ok (.getfield 15, 3) := by decide +kernel
theorem dX7_copy_20 : decode cX7_copy 20 = .ok (.iload_n 2, 1) := by decide +kernel
theorem dX7_copy_21 : decode cX7_copy 21 = .ok (.aload_n 1, 1) := by decide +kernel
theorem dX7_copy_22 : decode cX7_copy 22 = .ok (.getfield 15, 3) := by decide +kernel
theorem dX7_copy_25 : decode cX7_copy 25 = .ok (.iload_n 2, 1) := by decide +kernel
theorem dX7_copy_26 : decode cX7_copy 26 = .ok (.iaload, 1) := by decide +kernel
theorem dX7_copy_27 : decode cX7_copy 27 = .ok (.iastore, 1) := by decide +kernel
theorem dX7_copy_28 : decode cX7_copy 28 = .ok (.aload_n 0, 1) := by decide +kernel
theorem dX7_copy_29 : decode cX7_copy 29 = .ok (.getfield 19, 3) := by decide +kernel
theorem dX7_copy_32 : decode cX7_copy 32 = .ok (.iload_n 2, 1) := by decide +kernel
theorem dX7_copy_33 : decode cX7_copy 33 = .ok (.aload_n 1, 1) := by decide +kernel
theorem dX7_copy_34 : decode cX7_copy 34 = .ok (.getfield 19, 3) := by decide +kernel
theorem dX7_copy_37 : decode cX7_copy 37 = .ok (.iload_n 2, 1) := by decide +kernel
theorem dX7_copy_38 : decode cX7_copy 38 = .ok (.iaload, 1) := by decide +kernel
theorem dX7_copy_39 : decode cX7_copy 39 = .ok (.iastore, 1) := by decide +kernel
theorem dX7_copy_40 : decode cX7_copy 40 = .ok (.aload_n 0, 1) := by decide +kernel
theorem dX7_copy_41 : decode cX7_copy 41 = .ok (.getfield 22, 3) := by decide +kernel
theorem dX7_copy_44 : decode cX7_copy 44 = .ok (.iload_n 2, 1) := by decide +kernel
theorem dX7_copy_45 : decode cX7_copy 45 = .ok (.aload_n 1, 1) := by decide +kernel
theorem dX7_copy_46 : decode cX7_copy 46 = .ok (.getfield 22, 3) := by decide +kernel
theorem dX7_copy_49 : decode cX7_copy 49 = .ok (.iload_n 2, 1) := by decide +kernel
theorem dX7_copy_50 : decode cX7_copy 50 = .ok (.iaload, 1) := by decide +kernel
theorem dX7_copy_51 : decode cX7_copy 51 = .ok (.iastore, 1) := by decide +kernel
theorem dX7_copy_52 : decode cX7_copy 52 = .ok (.aload_n 0, 1) := by decide +kernel
theorem dX7_copy_53 : decode cX7_copy 53 = .ok (.getfield 25, 3) := by decide +kernel
theorem dX7_copy_56 : decode cX7_copy 56 = .ok (.iload_n 2, 1) := by decide +kernel
theorem dX7_copy_57 : decode cX7_copy 57 = .ok (.aload_n 1, 1) := by decide +kernel
theorem dX7_copy_58 : decode cX7_copy 58 = .ok (.getfield 25, 3) := by decide +kernel
theorem dX7_copy_61 : decode cX7_copy 61 = .ok (.iload_n 2, 1) := by decide +kernel
theorem dX7_copy_62 : decode cX7_copy 62 = .ok (.iaload, 1) := by decide +kernel
theorem dX7_copy_63 : decode cX7_copy 63 = .ok (.iastore, 1) := by decide +kernel
theorem dX7_copy_64 : decode cX7_copy 64 = .ok (.iinc 2 1, 3) := by decide +kernel
theorem dX7_copy_67 : decode cX7_copy 67 = .ok (.goto (-57), 3) := by decide +kernel
theorem dX7_copy_70 : decode cX7_copy 70 = .ok (.return_, 1) := by decide +kernel
def bX7_copy_10 (k10 : Nat → Nat → Int32 → gx_H → Option (Unit × gx_H)) (v0 : Nat) (v1 : Nat) (v2 : Int32) (h : gx_H) : Option (Unit × gx_H) :=
  if (6 : Int32) ≤ v2 then
    some ((), h)
  else
    (gx_fR h v0 5 1).bind fun a3 =>
    (gx_fR h v1 5 1).bind fun a4 =>
    (gx_aI 0 h a4 v2).bind fun x5 =>
    (gx_sI 0 h a3 v2 x5).bind fun h6 =>
    (gx_fR h6 v0 5 2).bind fun a7 =>
    (gx_fR h6 v1 5 2).bind fun a8 =>
    (gx_aI 0 h6 a8 v2).bind fun x9 =>
    (gx_sI 0 h6 a7 v2 x9).bind fun h10 =>
    (gx_fR h10 v0 5 3).bind fun a11 =>
    (gx_fR h10 v1 5 3).bind fun a12 =>
    (gx_aI 0 h10 a12 v2).bind fun x13 =>
    (gx_sI 0 h10 a11 v2 x13).bind fun h14 =>
    (gx_fR h14 v0 5 4).bind fun a15 =>
    (gx_fR h14 v1 5 4).bind fun a16 =>
    (gx_aI 0 h14 a16 v2).bind fun x17 =>
    (gx_sI 0 h14 a15 v2 x17).bind fun h18 =>
    k10 v0 v1 (v2 + (1 : Int32)) h18
def fX7_copy_10 : Nat → Nat → Nat → Int32 → gx_H → Option (Unit × gx_H)
  | 0 => fun _ _ _ _ => none
  | n + 1 => bX7_copy_10 (fX7_copy_10 n)
def fX7_copy (v0 : Nat) (v1 : Nat) (h : gx_H) : Option (Unit × gx_H) :=
  (gx_isO h v0 5).bind fun _ =>
  (gx_fI h v1 5 0).bind fun x1 =>
  (gx_pF h v0 5 0 (.int x1)).bind fun h2 =>
  fX7_copy_10 gx_N v0 v1 (0 : Int32) h2
set_option maxRecDepth 100000 in
set_option maxHeartbeats 4000000 in
theorem gbX7_copy_10 {E : gx_Env} {d : Nat}  (k10 : Nat → Nat → Int32 → gx_H → Option (Unit × gx_H)) (hk10 : ∀ (v0 : Nat) (v1 : Nat) (v2 : Int32) (h : gx_H), gx_G E RX7 cX7_copy 3 none false d 0 0 10 [some (.ref v0), some (.ref v1), some (.int v2)] [] h (fun _ : Unit => none) (k10 v0 v1 v2 h))  : ∀ (v0 : Nat) (v1 : Nat) (v2 : Int32) (h : gx_H), gx_G E RX7 cX7_copy 3 none false d 0 0 10 [some (.ref v0), some (.ref v1), some (.int v2)] [] h (fun _ : Unit => none) (bX7_copy_10 k10 v0 v1 v2 h) := by
  intro v0 v1 v2 h
  unfold bX7_copy_10
  refine gx_iload_n 2 dX7_copy_10 rfl rfl ?_
  refine gx_bipush (6 : Int32) dX7_copy_11 (by decide) ?_
  refine gx_icmp_ge 70 dX7_copy_13 (by decide) (fun _ => ?_) (fun _ => ?_)
  · exact gx_vret dX7_copy_70 rfl
  · refine gx_aload_n 0 dX7_copy_16 rfl rfl ?_
    refine gx_getR kf_RX7_15 dX7_copy_17 (fun a3 => ?_)
    refine gx_iload_n 2 dX7_copy_20 rfl rfl ?_
    refine gx_aload_n 1 dX7_copy_21 rfl rfl ?_
    refine gx_getR kf_RX7_15 dX7_copy_22 (fun a4 => ?_)
    refine gx_iload_n 2 dX7_copy_25 rfl rfl ?_
    refine gx_iald dX7_copy_26 (fun x5 => ?_)
    refine gx_iast dX7_copy_27 (fun h6 => ?_)
    refine gx_aload_n 0 dX7_copy_28 rfl rfl ?_
    refine gx_getR kf_RX7_19 dX7_copy_29 (fun a7 => ?_)
    refine gx_iload_n 2 dX7_copy_32 rfl rfl ?_
    refine gx_aload_n 1 dX7_copy_33 rfl rfl ?_
    refine gx_getR kf_RX7_19 dX7_copy_34 (fun a8 => ?_)
    refine gx_iload_n 2 dX7_copy_37 rfl rfl ?_
    refine gx_iald dX7_copy_38 (fun x9 => ?_)
    refine gx_iast dX7_copy_39 (fun h10 => ?_)
    refine gx_aload_n 0 dX7_copy_40 rfl rfl ?_
    refine gx_getR kf_RX7_22 dX7_copy_41 (fun a11 => ?_)
    refine gx_iload_n 2 dX7_copy_44 rfl rfl ?_
    refine gx_aload_n 1 dX7_copy_45 rfl rfl ?_
    refine gx_getR kf_RX7_22 dX7_copy_46 (fun a12 => ?_)
    refine gx_iload_n 2 dX7_copy_49 rfl rfl ?_
    refine gx_iald dX7_copy_50 (fun x13 => ?_)
    refine gx_iast dX7_copy_51 (fun h14 => ?_)
    refine gx_aload_n 0 dX7_copy_52 rfl rfl ?_
    refine gx_getR kf_RX7_25 dX7_copy_53 (fun a15 => ?_)
    refine gx_iload_n 2 dX7_copy_56 rfl rfl ?_
    refine gx_aload_n 1 dX7_copy_57 rfl rfl ?_
    refine gx_getR kf_RX7_25 dX7_copy_58 (fun a16 => ?_)
    refine gx_iload_n 2 dX7_copy_61 rfl rfl ?_
    refine gx_iald dX7_copy_62 (fun x17 => ?_)
    refine gx_iast dX7_copy_63 (fun h18 => ?_)
    refine gx_iinc (1 : Int32) [some (.ref v0), some (.ref v1), some (.int (v2 + (1 : Int32)))] dX7_copy_64 rfl (by decide) (by decide) rfl ?_
    refine gx_goto 10 dX7_copy_67 (by decide) ?_
    exact gx_sub (hk10 v0 v1 (v2 + (1 : Int32)) h18) (And.intro rfl (And.intro rfl (And.intro rfl True.intro)))
set_option maxRecDepth 100000 in
set_option maxHeartbeats 4000000 in
theorem gX7_copy_10 {E : gx_Env} {d : Nat}  : ∀ (n : Nat) (v0 : Nat) (v1 : Nat) (v2 : Int32) (h : gx_H), gx_G E RX7 cX7_copy 3 none false d 0 0 10 [some (.ref v0), some (.ref v1), some (.int v2)] [] h (fun _ : Unit => none) (fX7_copy_10 n v0 v1 v2 h) := by
  intro n
  induction n with
  | zero => intro v0 v1 v2 h; exact gx_none
  | succ n ih => exact gbX7_copy_10  (fX7_copy_10  n) ih
set_option maxRecDepth 100000 in
set_option maxHeartbeats 4000000 in
theorem geX7_copy {E : gx_Env} {d : Nat} (v0 : Nat) (v1 : Nat) (h : gx_H) : gx_G E RX7 cX7_copy 3 none false d 0 0 0 [some (.ref v0), some (.ref v1), none] [] h (fun _ : Unit => none) (fX7_copy v0 v1 h) := by
  unfold fX7_copy
  refine gx_bind fun _ _ => ?_
  refine gx_aload_n 0 dX7_copy_0 rfl rfl ?_
  refine gx_aload_n 1 dX7_copy_1 rfl rfl ?_
  refine gx_getI kf_RX7_9 dX7_copy_2 (fun x1 => ?_)
  refine gx_putI kp_RX7_9 (fun q => by cases q) dX7_copy_5 (fun h2 => ?_)
  refine gx_iconst (0 : Int32) dX7_copy_8 (by decide) ?_
  refine gx_istore_n 2 [some (.ref v0), some (.ref v1), some (.int (0 : Int32))] dX7_copy_9 rfl (by decide) rfl ?_
  exact gx_sub (gX7_copy_10 gx_N v0 v1 (0 : Int32) h2) (And.intro rfl (And.intro rfl (And.intro rfl True.intro)))
theorem okX7_copy {E : gx_Env} (d : Nat) {v0 : Nat} {v1 : Nat} {h : gx_H} {r : Unit} {h1 : gx_H} (q : fX7_copy v0 v1 h = some (r, h1)) : gx_M E yX7_copy cX7_copy 3 none d 0 0 [.ref v0, .ref v1] h ((fun _ : Unit => none) r) h1 := gx_meth (y := yX7_copy) (cc := cX7_copy) (nL := 3) (em := (fun _ : Unit => none)) (ini := false) [.ref v0, .ref v1] (by decide) (by simp [gx_sl]) (fun q => by cases q) (geX7_copy v0 v1 h) q
theorem dX1_copy_0 : decode cX1_copy 0 = .ok (.aload_n 0, 1) := by decide +kernel
theorem dX1_copy_1 : decode cX1_copy 1 = .ok (.getfield 10, 3) := by decide +kernel
theorem dX1_copy_4 : decode cX1_copy 4 = .ok (.aload_n 1, 1) := by decide +kernel
theorem dX1_copy_5 : decode cX1_copy 5 = .ok (.getfield 10, 3) := by decide +kernel
theorem dX1_copy_8 : decode cX1_copy 8 = .ok (.invokevirtual 39, 3) := by decide +kernel
theorem dX1_copy_11 : decode cX1_copy 11 = .ok (.aload_n 0, 1) := by decide +kernel
theorem dX1_copy_12 : decode cX1_copy 12 = .ok (.getfield 19, 3) := by decide +kernel
theorem dX1_copy_15 : decode cX1_copy 15 = .ok (.aload_n 1, 1) := by decide +kernel
theorem dX1_copy_16 : decode cX1_copy 16 = .ok (.getfield 19, 3) := by decide +kernel
theorem dX1_copy_19 : decode cX1_copy 19 = .ok (.invokevirtual 43, 3) := by decide +kernel
theorem dX1_copy_22 : decode cX1_copy 22 = .ok (.aload_n 0, 1) := by decide +kernel
theorem dX1_copy_23 : decode cX1_copy 23 = .ok (.getfield 26, 3) := by decide +kernel
theorem dX1_copy_26 : decode cX1_copy 26 = .ok (.aload_n 1, 1) := by decide +kernel
theorem dX1_copy_27 : decode cX1_copy 27 = .ok (.getfield 26, 3) := by decide +kernel
theorem dX1_copy_30 : decode cX1_copy 30 = .ok (.invokevirtual 46, 3) := by decide +kernel
theorem dX1_copy_33 : decode cX1_copy 33 = .ok (.aload_n 0, 1) := by decide +kernel
theorem dX1_copy_34 : decode cX1_copy 34 = .ok (.getfield 30, 3) := by decide +kernel
theorem dX1_copy_37 : decode cX1_copy 37 = .ok (.aload_n 1, 1) := by decide +kernel
theorem dX1_copy_38 : decode cX1_copy 38 = .ok (.getfield 30, 3) := by decide +kernel
theorem dX1_copy_41 : decode cX1_copy 41 = .ok (.invokevirtual 46, 3) := by decide +kernel
theorem dX1_copy_44 : decode cX1_copy 44 = .ok (.return_, 1) := by decide +kernel
def fX1_copy (v0 : Nat) (v1 : Nat) (h : gx_H) : Option (Unit × gx_H) :=
  (gx_isO h v0 1).bind fun _ =>
  (gx_fR h v0 1 0).bind fun a1 =>
  (gx_fR h v1 1 0).bind fun a2 =>
  gx_bd (fX0_copy a1 a2 h) fun u4 h3 =>
  (gx_fR h3 v0 1 1).bind fun a5 =>
  (gx_fR h3 v1 1 1).bind fun a6 =>
  gx_bd (fX3_copy a5 a6 h3) fun u8 h7 =>
  (gx_fR h7 v0 1 2).bind fun a9 =>
  (gx_fR h7 v1 1 2).bind fun a10 =>
  gx_bd (fX7_copy a9 a10 h7) fun u12 h11 =>
  (gx_fR h11 v0 1 3).bind fun a13 =>
  (gx_fR h11 v1 1 3).bind fun a14 =>
  gx_bd (fX7_copy a13 a14 h11) fun u16 h15 =>
  some ((), h15)
set_option maxRecDepth 100000 in
set_option maxHeartbeats 4000000 in
theorem geX1_copy {E : gx_Env} {d : Nat} (v0 : Nat) (v1 : Nat) (h : gx_H) : gx_G E RX1 cX1_copy 2 none false (d + 2) 0 0 0 [some (.ref v0), some (.ref v1)] [] h (fun _ : Unit => none) (fX1_copy v0 v1 h) := by
  unfold fX1_copy
  refine gx_bind fun _ _ => ?_
  refine gx_aload_n 0 dX1_copy_0 rfl rfl ?_
  refine gx_getR kf_RX1_10 dX1_copy_1 (fun a1 => ?_)
  refine gx_aload_n 1 dX1_copy_4 rfl rfl ?_
  refine gx_getR kf_RX1_10 dX1_copy_5 (fun a2 => ?_)
  refine gx_callV (ci := 0) (bc := 0) (bs := 0) (mc := 0) (ms := 0) (em' := (fun _ : Unit => none)) [.ref a2] kc_RX1_39 rfl dX1_copy_8 rfl rfl (gx_w8 rfl) (fun x q => (gx_isO_of (by unfold fX0_copy at q; exact q)).2) (fun _ _ q => okX0_copy (d + 1) q) (fun u4 h3 => ?_)
  refine gx_aload_n 0 dX1_copy_11 rfl rfl ?_
  refine gx_getR kf_RX1_19 dX1_copy_12 (fun a5 => ?_)
  refine gx_aload_n 1 dX1_copy_15 rfl rfl ?_
  refine gx_getR kf_RX1_19 dX1_copy_16 (fun a6 => ?_)
  refine gx_callV (ci := 3) (bc := 0) (bs := 0) (mc := 0) (ms := 0) (em' := (fun _ : Unit => none)) [.ref a6] kc_RX1_43 rfl dX1_copy_19 rfl rfl (gx_w8 rfl) (fun x q => (gx_isO_of (by unfold fX3_copy at q; exact q)).2) (fun _ _ q => okX3_copy d q) (fun u8 h7 => ?_)
  refine gx_aload_n 0 dX1_copy_22 rfl rfl ?_
  refine gx_getR kf_RX1_26 dX1_copy_23 (fun a9 => ?_)
  refine gx_aload_n 1 dX1_copy_26 rfl rfl ?_
  refine gx_getR kf_RX1_26 dX1_copy_27 (fun a10 => ?_)
  refine gx_callV (ci := 5) (bc := 0) (bs := 0) (mc := 0) (ms := 0) (em' := (fun _ : Unit => none)) [.ref a10] kc_RX1_46 rfl dX1_copy_30 rfl rfl (gx_w8 rfl) (fun x q => (gx_isO_of (by unfold fX7_copy at q; exact q)).2) (fun _ _ q => okX7_copy (d + 1) q) (fun u12 h11 => ?_)
  refine gx_aload_n 0 dX1_copy_33 rfl rfl ?_
  refine gx_getR kf_RX1_30 dX1_copy_34 (fun a13 => ?_)
  refine gx_aload_n 1 dX1_copy_37 rfl rfl ?_
  refine gx_getR kf_RX1_30 dX1_copy_38 (fun a14 => ?_)
  refine gx_callV (ci := 5) (bc := 0) (bs := 0) (mc := 0) (ms := 0) (em' := (fun _ : Unit => none)) [.ref a14] kc_RX1_46 rfl dX1_copy_41 rfl rfl (gx_w8 rfl) (fun x q => (gx_isO_of (by unfold fX7_copy at q; exact q)).2) (fun _ _ q => okX7_copy (d + 1) q) (fun u16 h15 => ?_)
  exact gx_vret dX1_copy_44 rfl
theorem okX1_copy {E : gx_Env} (d : Nat) {v0 : Nat} {v1 : Nat} {h : gx_H} {r : Unit} {h1 : gx_H} (q : fX1_copy v0 v1 h = some (r, h1)) : gx_M E yX1_copy cX1_copy 2 none (d + 2) 0 0 [.ref v0, .ref v1] h ((fun _ : Unit => none) r) h1 := gx_meth (y := yX1_copy) (cc := cX1_copy) (nL := 2) (em := (fun _ : Unit => none)) (ini := false) [.ref v0, .ref v1] (by decide) (by simp [gx_sl]) (fun q => by cases q) (geX1_copy v0 v1 h) q
theorem dX7_digestOn_0 : decode cX7_digestOn 0 = .ok (.lload_n 1, 1) := by decide +kernel
theorem dX7_digestOn_1 : decode cX7_digestOn 1 = .ok (.lstore_n 3, 1) := by decide +kernel
theorem dX7_digestOn_2 : decode cX7_digestOn 2 = .ok (.iconst 0, 1) := by decide +kernel
theorem dX7_digestOn_3 : decode cX7_digestOn 3 = .ok (.istore 5, 2) := by decide +kernel
theorem dX7_digestOn_5 : decode cX7_digestOn 5 = .ok (.iload 5, 2) := by decide +kernel
theorem dX7_digestOn_7 : decode cX7_digestOn 7 = .ok (.aload_n 0, 1) := by decide +kernel
theorem dX7_digestOn_8 : decode cX7_digestOn 8 = .ok (.getfield 9, 3) := by decide +kernel
theorem dX7_digestOn_11 : decode cX7_digestOn 11 = .ok (.if_icmp .ge 69, 3) := by decide +kernel
theorem dX7_digestOn_14 : decode cX7_digestOn 14 = .ok (.ldc2_w 28, 3) := by decide +kernel
theorem dX7_digestOn_17 : decode cX7_digestOn 17 = .ok (.lload_n 3, 1) := by decide +kernel
theorem dX7_digestOn_18 : decode cX7_digestOn 18 = .ok (.lmul, 1) := by decide +kernel
theorem dX7_digestOn_19 : decode cX7_digestOn 19 = .ok (.aload_n 0, 1) := by decide +kernel
theorem dX7_digestOn_20 : decode cX7_digestOn 20 = .ok (.getfield 15, 3) := by decide +kernel
theorem dX7_digestOn_23 : decode cX7_digestOn 23 = .ok (.iload 5, 2) := by decide +kernel
theorem dX7_digestOn_25 : decode cX7_digestOn 25 = .ok (.iaload, 1) := by decide +kernel
theorem dX7_digestOn_26 : decode cX7_digestOn 26 = .ok (.i2l, 1) := by decide +kernel
theorem dX7_digestOn_27 : decode cX7_digestOn 27 = .ok (.ladd, 1) := by decide +kernel
theorem dX7_digestOn_28 : decode cX7_digestOn 28 = .ok (.lstore_n 3, 1) := by decide +kernel
theorem dX7_digestOn_29 : decode cX7_digestOn 29 = .ok (.ldc2_w 28, 3) := by decide +kernel
theorem dX7_digestOn_32 : decode cX7_digestOn 32 = .ok (.lload_n 3, 1) := by decide +kernel
theorem dX7_digestOn_33 : decode cX7_digestOn 33 = .ok (.lmul, 1) := by decide +kernel
theorem dX7_digestOn_34 : decode cX7_digestOn 34 = .ok (.aload_n 0, 1) := by decide +kernel
theorem dX7_digestOn_35 : decode cX7_digestOn 35 = .ok (.getfield 19, 3) := by decide +kernel
theorem dX7_digestOn_38 : decode cX7_digestOn 38 = .ok (.iload 5, 2) := by decide +kernel
theorem dX7_digestOn_40 : decode cX7_digestOn 40 = .ok (.iaload, 1) := by decide +kernel
theorem dX7_digestOn_41 : decode cX7_digestOn 41 = .ok (.i2l, 1) := by decide +kernel
theorem dX7_digestOn_42 : decode cX7_digestOn 42 = .ok (.ladd, 1) := by decide +kernel
theorem dX7_digestOn_43 : decode cX7_digestOn 43 = .ok (.lstore_n 3, 1) := by decide +kernel
theorem dX7_digestOn_44 : decode cX7_digestOn 44 = .ok (.ldc2_w 28, 3) := by decide +kernel
theorem dX7_digestOn_47 : decode cX7_digestOn 47 = .ok (.lload_n 3, 1) := by decide +kernel
theorem dX7_digestOn_48 : decode cX7_digestOn 48 = .ok (.lmul, 1) := by decide +kernel
theorem dX7_digestOn_49 : decode cX7_digestOn 49 = .ok (.aload_n 0, 1) := by decide +kernel
theorem dX7_digestOn_50 : decode cX7_digestOn 50 = .ok (.getfield 22, 3) := by decide +kernel
theorem dX7_digestOn_53 : decode cX7_digestOn 53 = .ok (.iload 5, 2) := by decide +kernel
theorem dX7_digestOn_55 : decode cX7_digestOn 55 = .ok (.iaload, 1) := by decide +kernel
theorem dX7_digestOn_56 : decode cX7_digestOn 56 = .ok (.i2l, 1) := by decide +kernel
theorem dX7_digestOn_57 : decode cX7_digestOn 57 = .ok (.ladd, 1) := by decide +kernel
theorem dX7_digestOn_58 : decode cX7_digestOn 58 = .ok (.lstore_n 3, 1) := by decide +kernel
theorem dX7_digestOn_59 : decode cX7_digestOn 59 = .ok (.ldc2_w 28, 3) := by decide +kernel
theorem dX7_digestOn_62 : decode cX7_digestOn 62 = .ok (.lload_n 3, 1) := by decide +kernel
theorem dX7_digestOn_63 : decode cX7_digestOn 63 = .ok (.lmul, 1) := by decide +kernel
theorem dX7_digestOn_64 : decode cX7_digestOn 64 = .ok (.aload_n 0, 1) := by decide +kernel
theorem dX7_digestOn_65 : decode cX7_digestOn 65 = .ok (.getfield 25, 3) := by decide +kernel
theorem dX7_digestOn_68 : decode cX7_digestOn 68 = .ok (.iload 5, 2) := by decide +kernel
theorem dX7_digestOn_70 : decode cX7_digestOn 70 = .ok (.iaload, 1) := by decide +kernel
theorem dX7_digestOn_71 : decode cX7_digestOn 71 = .ok (.i2l, 1) := by decide +kernel
theorem dX7_digestOn_72 : decode cX7_digestOn 72 = .ok (.ladd, 1) := by decide +kernel
theorem dX7_digestOn_73 : decode cX7_digestOn 73 = .ok (.lstore_n 3, 1) := by decide +kernel
theorem dX7_digestOn_74 : decode cX7_digestOn 74 = .ok (.iinc 5 1, 3) := by decide +kernel
theorem dX7_digestOn_77 : decode cX7_digestOn 77 = .ok (.goto (-72), 3) := by decide +kernel
theorem dX7_digestOn_80 : decode cX7_digestOn 80 = .ok (.lload_n 3, 1) := by decide +kernel
theorem dX7_digestOn_81 : decode cX7_digestOn 81 = .ok (.lreturn, 1) := by decide +kernel
def bX7_digestOn_5 (k5 : Nat → Int64 → Int32 → gx_H → Option (Int64 × gx_H)) (v0 : Nat) (v3 : Int64) (v5 : Int32) (h : gx_H) : Option (Int64 × gx_H) :=
  (gx_fI h v0 5 0).bind fun x1 =>
  if x1 ≤ v5 then
    some (v3, h)
  else
    (gx_fR h v0 5 1).bind fun a2 =>
    (gx_aI 0 h a2 v5).bind fun x3 =>
    (gx_fR h v0 5 2).bind fun a4 =>
    (gx_aI 0 h a4 v5).bind fun x5 =>
    (gx_fR h v0 5 3).bind fun a6 =>
    (gx_aI 0 h a6 v5).bind fun x7 =>
    (gx_fR h v0 5 4).bind fun a8 =>
    (gx_aI 0 h a8 v5).bind fun x9 =>
    k5 v0 (((31 : Int64) * (((31 : Int64) * (((31 : Int64) * (((31 : Int64) * v3) + ((x3).toInt64))) + ((x5).toInt64))) + ((x7).toInt64))) + ((x9).toInt64)) (v5 + (1 : Int32)) h
def fX7_digestOn_5 : Nat → Nat → Int64 → Int32 → gx_H → Option (Int64 × gx_H)
  | 0 => fun _ _ _ _ => none
  | n + 1 => bX7_digestOn_5 (fX7_digestOn_5 n)
def fX7_digestOn (v0 : Nat) (v1 : Int64) (h : gx_H) : Option (Int64 × gx_H) :=
  (gx_isO h v0 5).bind fun _ =>
  fX7_digestOn_5 gx_N v0 v1 (0 : Int32) h
set_option maxRecDepth 100000 in
set_option maxHeartbeats 4000000 in
theorem gbX7_digestOn_5 {E : gx_Env} {d : Nat}  (k5 : Nat → Int64 → Int32 → gx_H → Option (Int64 × gx_H)) (hk5 : ∀ (v0 : Nat) (v3 : Int64) (v5 : Int32) (h : gx_H), gx_G E RX7 cX7_digestOn 6 (some .long) false d 0 0 5 [some (.ref v0), none, none, some (.long v3), none, some (.int v5)] [] h (fun x : Int64 => some (.long x)) (k5 v0 v3 v5 h))  : ∀ (v0 : Nat) (v3 : Int64) (v5 : Int32) (h : gx_H), gx_G E RX7 cX7_digestOn 6 (some .long) false d 0 0 5 [some (.ref v0), none, none, some (.long v3), none, some (.int v5)] [] h (fun x : Int64 => some (.long x)) (bX7_digestOn_5 k5 v0 v3 v5 h) := by
  intro v0 v3 v5 h
  unfold bX7_digestOn_5
  refine gx_iload dX7_digestOn_5 rfl ?_
  refine gx_aload_n 0 dX7_digestOn_7 rfl rfl ?_
  refine gx_getI kf_RX7_9 dX7_digestOn_8 (fun x1 => ?_)
  refine gx_icmp_ge 80 dX7_digestOn_11 (by decide) (fun _ => ?_) (fun _ => ?_)
  · refine gx_lload_n 3 dX7_digestOn_80 rfl rfl ?_
    exact gx_lret dX7_digestOn_81 rfl
  · refine gx_ldc2 kk_RX7_28 dX7_digestOn_14 ?_
    refine gx_lload_n 3 dX7_digestOn_17 rfl rfl ?_
    refine gx_lmul dX7_digestOn_18 ?_
    refine gx_aload_n 0 dX7_digestOn_19 rfl rfl ?_
    refine gx_getR kf_RX7_15 dX7_digestOn_20 (fun a2 => ?_)
    refine gx_iload dX7_digestOn_23 rfl ?_
    refine gx_iald dX7_digestOn_25 (fun x3 => ?_)
    refine gx_i2l dX7_digestOn_26 ?_
    refine gx_ladd dX7_digestOn_27 ?_
    refine gx_lstore_n 3 [some (.ref v0), none, none, some (.long (((31 : Int64) * v3) + ((x3).toInt64))), none, some (.int v5)] dX7_digestOn_28 rfl (by decide) rfl ?_
    refine gx_ldc2 kk_RX7_28 dX7_digestOn_29 ?_
    refine gx_lload_n 3 dX7_digestOn_32 rfl rfl ?_
    refine gx_lmul dX7_digestOn_33 ?_
    refine gx_aload_n 0 dX7_digestOn_34 rfl rfl ?_
    refine gx_getR kf_RX7_19 dX7_digestOn_35 (fun a4 => ?_)
    refine gx_iload dX7_digestOn_38 rfl ?_
    refine gx_iald dX7_digestOn_40 (fun x5 => ?_)
    refine gx_i2l dX7_digestOn_41 ?_
    refine gx_ladd dX7_digestOn_42 ?_
    refine gx_lstore_n 3 [some (.ref v0), none, none, some (.long (((31 : Int64) * (((31 : Int64) * v3) + ((x3).toInt64))) + ((x5).toInt64))), none, some (.int v5)] dX7_digestOn_43 rfl (by decide) rfl ?_
    refine gx_ldc2 kk_RX7_28 dX7_digestOn_44 ?_
    refine gx_lload_n 3 dX7_digestOn_47 rfl rfl ?_
    refine gx_lmul dX7_digestOn_48 ?_
    refine gx_aload_n 0 dX7_digestOn_49 rfl rfl ?_
    refine gx_getR kf_RX7_22 dX7_digestOn_50 (fun a6 => ?_)
    refine gx_iload dX7_digestOn_53 rfl ?_
    refine gx_iald dX7_digestOn_55 (fun x7 => ?_)
    refine gx_i2l dX7_digestOn_56 ?_
    refine gx_ladd dX7_digestOn_57 ?_
    refine gx_lstore_n 3 [some (.ref v0), none, none, some (.long (((31 : Int64) * (((31 : Int64) * (((31 : Int64) * v3) + ((x3).toInt64))) + ((x5).toInt64))) + ((x7).toInt64))), none, some (.int v5)] dX7_digestOn_58 rfl (by decide) rfl ?_
    refine gx_ldc2 kk_RX7_28 dX7_digestOn_59 ?_
    refine gx_lload_n 3 dX7_digestOn_62 rfl rfl ?_
    refine gx_lmul dX7_digestOn_63 ?_
    refine gx_aload_n 0 dX7_digestOn_64 rfl rfl ?_
    refine gx_getR kf_RX7_25 dX7_digestOn_65 (fun a8 => ?_)
    refine gx_iload dX7_digestOn_68 rfl ?_
    refine gx_iald dX7_digestOn_70 (fun x9 => ?_)
    refine gx_i2l dX7_digestOn_71 ?_
    refine gx_ladd dX7_digestOn_72 ?_
    refine gx_lstore_n 3 [some (.ref v0), none, none, some (.long (((31 : Int64) * (((31 : Int64) * (((31 : Int64) * (((31 : Int64) * v3) + ((x3).toInt64))) + ((x5).toInt64))) + ((x7).toInt64))) + ((x9).toInt64))), none, some (.int v5)] dX7_digestOn_73 rfl (by decide) rfl ?_
    refine gx_iinc (1 : Int32) [some (.ref v0), none, none, some (.long (((31 : Int64) * (((31 : Int64) * (((31 : Int64) * (((31 : Int64) * v3) + ((x3).toInt64))) + ((x5).toInt64))) + ((x7).toInt64))) + ((x9).toInt64))), none, some (.int (v5 + (1 : Int32)))] dX7_digestOn_74 rfl (by decide) (by decide) rfl ?_
    refine gx_goto 5 dX7_digestOn_77 (by decide) ?_
    exact gx_sub (hk5 v0 (((31 : Int64) * (((31 : Int64) * (((31 : Int64) * (((31 : Int64) * v3) + ((x3).toInt64))) + ((x5).toInt64))) + ((x7).toInt64))) + ((x9).toInt64)) (v5 + (1 : Int32)) h) (And.intro rfl (And.intro rfl (And.intro rfl True.intro)))
set_option maxRecDepth 100000 in
set_option maxHeartbeats 4000000 in
theorem gX7_digestOn_5 {E : gx_Env} {d : Nat}  : ∀ (n : Nat) (v0 : Nat) (v3 : Int64) (v5 : Int32) (h : gx_H), gx_G E RX7 cX7_digestOn 6 (some .long) false d 0 0 5 [some (.ref v0), none, none, some (.long v3), none, some (.int v5)] [] h (fun x : Int64 => some (.long x)) (fX7_digestOn_5 n v0 v3 v5 h) := by
  intro n
  induction n with
  | zero => intro v0 v3 v5 h; exact gx_none
  | succ n ih => exact gbX7_digestOn_5  (fX7_digestOn_5  n) ih
set_option maxRecDepth 100000 in
set_option maxHeartbeats 4000000 in
theorem geX7_digestOn {E : gx_Env} {d : Nat} (v0 : Nat) (v1 : Int64) (h : gx_H) : gx_G E RX7 cX7_digestOn 6 (some .long) false d 0 0 0 [some (.ref v0), some (.long v1), none, none, none, none] [] h (fun x : Int64 => some (.long x)) (fX7_digestOn v0 v1 h) := by
  unfold fX7_digestOn
  refine gx_bind fun _ _ => ?_
  refine gx_lload_n 1 dX7_digestOn_0 rfl rfl ?_
  refine gx_lstore_n 3 [some (.ref v0), some (.long v1), none, some (.long v1), none, none] dX7_digestOn_1 rfl (by decide) rfl ?_
  refine gx_iconst (0 : Int32) dX7_digestOn_2 (by decide) ?_
  refine gx_istore [some (.ref v0), some (.long v1), none, some (.long v1), none, some (.int (0 : Int32))] dX7_digestOn_3 (by decide) rfl ?_
  exact gx_sub (gX7_digestOn_5 gx_N v0 v1 (0 : Int32) h) (And.intro rfl (And.intro rfl (And.intro rfl True.intro)))
theorem okX7_digestOn {E : gx_Env} (d : Nat) {v0 : Nat} {v1 : Int64} {h : gx_H} {r : Int64} {h1 : gx_H} (q : fX7_digestOn v0 v1 h = some (r, h1)) : gx_M E yX7_digestOn cX7_digestOn 6 (some .long) d 0 0 [.ref v0, .long v1] h ((fun x : Int64 => some (.long x)) r) h1 := gx_meth (y := yX7_digestOn) (cc := cX7_digestOn) (nL := 6) (em := (fun x : Int64 => some (.long x))) (ini := false) [.ref v0, .long v1] (by decide) (by simp [gx_sl]) (fun q => by cases q) (geX7_digestOn v0 v1 h) q
theorem dX1_digestOn_0 : decode cX1_digestOn 0 = .ok (.lload_n 1, 1) := by decide +kernel
theorem dX1_digestOn_1 : decode cX1_digestOn 1 = .ok (.lstore_n 3, 1) := by decide +kernel
theorem dX1_digestOn_2 : decode cX1_digestOn 2 = .ok (.iconst 0, 1) := by decide +kernel
theorem dX1_digestOn_3 : decode cX1_digestOn 3 = .ok (.istore 5, 2) := by decide +kernel
theorem dX1_digestOn_5 : decode cX1_digestOn 5 = .ok (.iload 5, 2) := by decide +kernel
theorem dX1_digestOn_7 : decode cX1_digestOn 7 = .ok (.aload_n 0, 1) := by decide +kernel
theorem dX1_digestOn_8 : decode cX1_digestOn 8 = .ok (.getfield 10, 3) := by decide +kernel
theorem dX1_digestOn_11 : decode cX1_digestOn 11 = .ok (.getfield 49, 3) := by decide +kernel
theorem dX1_digestOn_14 : decode cX1_digestOn 14 = .ok (.if_icmp .ge 81, 3) := by decide +kernel
theorem dX1_digestOn_17 : decode cX1_digestOn 17 = .ok (.ldc2_w 53, 3) := by decide +kernel
theorem dX1_digestOn_20 : decode cX1_digestOn 20 = .ok (.lload_n 3, 1) := by decide +kernel
theorem dX1_digestOn_21 : decode cX1_digestOn 21 = .ok (.lmul, 1) := by decide +kernel
theorem dX1_digestOn_22 : decode cX1_digestOn 22 = .ok (.aload_n 0, 1) := by decide +kernel
theorem dX1_digestOn_23 : decode cX1_digestOn 23 = .ok (.getfield 10, 3) := by decide +kernel
theorem dX1_digestOn_26 : decode cX1_digestOn 26 = .ok (.getfield 55, 3) := by decide +kernel
theorem dX1_digestOn_29 : decode cX1_digestOn 29 = .ok (.iload 5, 2) := by decide +kernel
theorem dX1_digestOn_31 : decode cX1_digestOn 31 = .ok (.iaload, 1) := by decide +kernel
theorem dX1_digestOn_32 : decode cX1_digestOn 32 = .ok (.i2l, 1) := by decide +kernel
theorem dX1_digestOn_33 : decode cX1_digestOn 33 = .ok (.ladd, 1) := by decide +kernel
theorem dX1_digestOn_34 : decode cX1_digestOn 34 = .ok (.lstore_n 3, 1) := by decide +kernel
theorem dX1_digestOn_35 : decode cX1_digestOn 35 = .ok (.ldc2_w 53, 3) := by decide +kernel
theorem dX1_digestOn_38 : decode cX1_digestOn 38 = .ok (.lload_n 3, 1) := by decide +kernel
theorem dX1_digestOn_39 : decode cX1_digestOn 39 = .ok (.lmul, 1) := by decide +kernel
theorem dX1_digestOn_40 : decode cX1_digestOn 40 = .ok (.aload_n 0, 1) := by decide +kernel
theorem dX1_digestOn_41 : decode cX1_digestOn 41 = .ok (.getfield 10, 3) := by decide +kernel
theorem dX1_digestOn_44 : decode cX1_digestOn 44 = .ok (.getfield 59, 3) := by decide +kernel
theorem dX1_digestOn_47 : decode cX1_digestOn 47 = .ok (.iload 5, 2) := by decide +kernel
theorem dX1_digestOn_49 : decode cX1_digestOn 49 = .ok (.iaload, 1) := by decide +kernel
theorem dX1_digestOn_50 : decode cX1_digestOn 50 = .ok (.i2l, 1) := by decide +kernel
theorem dX1_digestOn_51 : decode cX1_digestOn 51 = .ok (.ladd, 1) := by decide +kernel
theorem dX1_digestOn_52 : decode cX1_digestOn 52 = .ok (.lstore_n 3, 1) := by decide +kernel
theorem dX1_digestOn_53 : decode cX1_digestOn 53 = .ok (.ldc2_w 53, 3) := by decide +kernel
theorem dX1_digestOn_56 : decode cX1_digestOn 56 = .ok (.lload_n 3, 1) := by decide +kernel
theorem dX1_digestOn_57 : decode cX1_digestOn 57 = .ok (.lmul, 1) := by decide +kernel
theorem dX1_digestOn_58 : decode cX1_digestOn 58 = .ok (.aload_n 0, 1) := by decide +kernel
theorem dX1_digestOn_59 : decode cX1_digestOn 59 = .ok (.getfield 10, 3) := by decide +kernel
theorem dX1_digestOn_62 : decode cX1_digestOn 62 = .ok (.getfield 62, 3) := by decide +kernel
theorem dX1_digestOn_65 : decode cX1_digestOn 65 = .ok (.iload 5, 2) := by decide +kernel
theorem dX1_digestOn_67 : decode cX1_digestOn 67 = .ok (.iaload, 1) := by decide +kernel
theorem dX1_digestOn_68 : decode cX1_digestOn 68 = .ok (.i2l, 1) := by decide +kernel
theorem dX1_digestOn_69 : decode cX1_digestOn 69 = .ok (.ladd, 1) := by decide +kernel
theorem dX1_digestOn_70 : decode cX1_digestOn 70 = .ok (.lstore_n 3, 1) := by decide +kernel
theorem dX1_digestOn_71 : decode cX1_digestOn 71 = .ok (.ldc2_w 53, 3) := by decide +kernel
theorem dX1_digestOn_74 : decode cX1_digestOn 74 = .ok (.lload_n 3, 1) := by decide +kernel
theorem dX1_digestOn_75 : decode cX1_digestOn 75 = .ok (.lmul, 1) := by decide +kernel
theorem dX1_digestOn_76 : decode cX1_digestOn 76 = .ok (.aload_n 0, 1) := by decide +kernel
theorem dX1_digestOn_77 : decode cX1_digestOn 77 = .ok (.getfield 10, 3) := by decide +kernel
theorem dX1_digestOn_80 : decode cX1_digestOn 80 = .ok (.getfield 65, 3) := by decide +kernel
theorem dX1_digestOn_83 : decode cX1_digestOn 83 = .ok (.iload 5, 2) := by decide +kernel
theorem dX1_digestOn_85 : decode cX1_digestOn 85 = .ok (.iaload, 1) := by decide +kernel
theorem dX1_digestOn_86 : decode cX1_digestOn 86 = .ok (.i2l, 1) := by decide +kernel
theorem dX1_digestOn_87 : decode cX1_digestOn 87 = .ok (.ladd, 1) := by decide +kernel
theorem dX1_digestOn_88 : decode cX1_digestOn 88 = .ok (.lstore_n 3, 1) := by decide +kernel
theorem dX1_digestOn_89 : decode cX1_digestOn 89 = .ok (.iinc 5 1, 3) := by decide +kernel
theorem dX1_digestOn_92 : decode cX1_digestOn 92 = .ok (.goto (-87), 3) := by decide +kernel
theorem dX1_digestOn_95 : decode cX1_digestOn 95 = .ok (.iconst 0, 1) := by decide +kernel
theorem dX1_digestOn_96 : decode cX1_digestOn 96 = .ok (.istore 5, 2) := by decide +kernel
theorem dX1_digestOn_98 : decode cX1_digestOn 98 = .ok (.iload 5, 2) := by decide +kernel
theorem dX1_digestOn_100 : decode cX1_digestOn 100 = .ok (.aload_n 0, 1) := by decide +kernel
theorem dX1_digestOn_101 : decode cX1_digestOn 101 = .ok (.getfield 10, 3) := by decide +kernel
theorem dX1_digestOn_104 : decode cX1_digestOn 104 = .ok (.getfield 68, 3) := by decide +kernel
theorem dX1_digestOn_107 : decode cX1_digestOn 107 = .ok (.if_icmp .ge 63, 3) := by decide +kernel
theorem dX1_digestOn_110 : decode cX1_digestOn 110 = .ok (.ldc2_w 53, 3) := by decide +kernel
theorem dX1_digestOn_113 : decode cX1_digestOn 113 = .ok (.lload_n 3, 1) := by decide +kernel
theorem dX1_digestOn_114 : decode cX1_digestOn 114 = .ok (.lmul, 1) := by decide +kernel
theorem dX1_digestOn_115 : decode cX1_digestOn 115 = .ok (.aload_n 0, 1) := by decide +kernel
theorem dX1_digestOn_116 : decode cX1_digestOn 116 = .ok (.getfield 10, 3) := by decide +kernel
theorem dX1_digestOn_119 : decode cX1_digestOn 119 = .ok (.getfield 71, 3) := by decide +kernel
theorem dX1_digestOn_122 : decode cX1_digestOn 122 = .ok (.iload 5, 2) := by decide +kernel
theorem dX1_digestOn_124 : decode cX1_digestOn 124 = .ok (.iaload, 1) := by decide +kernel
theorem dX1_digestOn_125 : decode cX1_digestOn 125 = .ok (.i2l, 1) := by decide +kernel
theorem dX1_digestOn_126 : decode cX1_digestOn 126 = .ok (.ladd, 1) := by decide +kernel
theorem dX1_digestOn_127 : decode cX1_digestOn 127 = .ok (.lstore_n 3, 1) := by decide +kernel
theorem dX1_digestOn_128 : decode cX1_digestOn 128 = .ok (.ldc2_w 53, 3) := by decide +kernel
theorem dX1_digestOn_131 : decode cX1_digestOn 131 = .ok (.lload_n 3, 1) := by decide +kernel
theorem dX1_digestOn_132 : decode cX1_digestOn 132 = .ok (.lmul, 1) := by decide +kernel
theorem dX1_digestOn_133 : decode cX1_digestOn 133 = .ok (.aload_n 0, 1) := by decide +kernel
theorem dX1_digestOn_134 : decode cX1_digestOn 134 = .ok (.getfield 10, 3) := by decide +kernel
theorem dX1_digestOn_137 : decode cX1_digestOn 137 = .ok (.getfield 74, 3) := by decide +kernel
theorem dX1_digestOn_140 : decode cX1_digestOn 140 = .ok (.iload 5, 2) := by decide +kernel
theorem dX1_digestOn_142 : decode cX1_digestOn 142 = .ok (.iaload, 1) := by decide +kernel
theorem dX1_digestOn_143 : decode cX1_digestOn 143 = .ok (.i2l, 1) := by decide +kernel
theorem dX1_digestOn_144 : decode cX1_digestOn 144 = .ok (.ladd, 1) := by decide +kernel
theorem dX1_digestOn_145 : decode cX1_digestOn 145 = .ok (.lstore_n 3, 1) := by decide +kernel
theorem dX1_digestOn_146 : decode cX1_digestOn 146 = .ok (.ldc2_w 53, 3) := by decide +kernel
theorem dX1_digestOn_149 : decode cX1_digestOn 149 = .ok (.lload_n 3, 1) := by decide +kernel
theorem dX1_digestOn_150 : decode cX1_digestOn 150 = .ok (.lmul, 1) := by decide +kernel
theorem dX1_digestOn_151 : decode cX1_digestOn 151 = .ok (.aload_n 0, 1) := by decide +kernel
theorem dX1_digestOn_152 : decode cX1_digestOn 152 = .ok (.getfield 10, 3) := by decide +kernel
theorem dX1_digestOn_155 : decode cX1_digestOn 155 = .ok (.getfield 77, 3) := by decide +kernel
theorem dX1_digestOn_158 : decode cX1_digestOn 158 = .ok (.iload 5, 2) := by decide +kernel
theorem dX1_digestOn_160 : decode cX1_digestOn 160 = .ok (.iaload, 1) := by decide +kernel
theorem dX1_digestOn_161 : decode cX1_digestOn 161 = .ok (.i2l, 1) := by decide +kernel
theorem dX1_digestOn_162 : decode cX1_digestOn 162 = .ok (.ladd, 1) := by decide +kernel
theorem dX1_digestOn_163 : decode cX1_digestOn 163 = .ok (.lstore_n 3, 1) := by decide +kernel
theorem dX1_digestOn_164 : decode cX1_digestOn 164 = .ok (.iinc 5 1, 3) := by decide +kernel
theorem dX1_digestOn_167 : decode cX1_digestOn 167 = .ok (.goto (-69), 3) := by decide +kernel
theorem dX1_digestOn_170 : decode cX1_digestOn 170 = .ok (.aload_n 0, 1) := by decide +kernel
theorem dX1_digestOn_171 : decode cX1_digestOn 171 = .ok (.getfield 30, 3) := by decide +kernel
theorem dX1_digestOn_174 : decode cX1_digestOn 174 = .ok (.aload_n 0, 1) := by decide +kernel
theorem dX1_digestOn_175 : decode cX1_digestOn 175 = .ok (.getfield 26, 3) := by decide +kernel
theorem dX1_digestOn_178 : decode cX1_digestOn 178 = .ok (.lload_n 3, 1) := by decide +kernel
theorem dX1_digestOn_179 : decode cX1_digestOn 179 = .ok (.invokevirtual 80, 3) := by decide +kernel
theorem dX1_digestOn_182 : decode cX1_digestOn 182 = .ok (.invokevirtual 80, 3) := by decide +kernel
theorem dX1_digestOn_185 : decode cX1_digestOn 185 = .ok (.lreturn, 1) := by decide +kernel
def bX1_digestOn_98 (k98 : Nat → Int64 → Int32 → gx_H → Option (Int64 × gx_H)) (v0 : Nat) (v3 : Int64) (v5 : Int32) (h : gx_H) : Option (Int64 × gx_H) :=
  (gx_fR h v0 1 0).bind fun a15 =>
  (gx_fI h a15 0 3).bind fun x16 =>
  if x16 ≤ v5 then
    (gx_fR h v0 1 3).bind fun a17 =>
    (gx_fR h v0 1 2).bind fun a18 =>
    gx_bd (fX7_digestOn a18 v3 h) fun y20 h19 =>
    gx_bd (fX7_digestOn a17 y20 h19) fun y22 h21 =>
    some (y22, h21)
  else
    (gx_fR h v0 1 0).bind fun a23 =>
    (gx_fR h a23 0 8).bind fun a24 =>
    (gx_aI 0 h a24 v5).bind fun x25 =>
    (gx_fR h v0 1 0).bind fun a26 =>
    (gx_fR h a26 0 9).bind fun a27 =>
    (gx_aI 0 h a27 v5).bind fun x28 =>
    (gx_fR h v0 1 0).bind fun a29 =>
    (gx_fR h a29 0 10).bind fun a30 =>
    (gx_aI 0 h a30 v5).bind fun x31 =>
    k98 v0 (((31 : Int64) * (((31 : Int64) * (((31 : Int64) * v3) + ((x25).toInt64))) + ((x28).toInt64))) + ((x31).toInt64)) (v5 + (1 : Int32)) h
def fX1_digestOn_98 : Nat → Nat → Int64 → Int32 → gx_H → Option (Int64 × gx_H)
  | 0 => fun _ _ _ _ => none
  | n + 1 => bX1_digestOn_98 (fX1_digestOn_98 n)
def bX1_digestOn_5 (k5 : Nat → Int64 → Int32 → gx_H → Option (Int64 × gx_H)) (v0 : Nat) (v3 : Int64) (v5 : Int32) (h : gx_H) : Option (Int64 × gx_H) :=
  (gx_fR h v0 1 0).bind fun a1 =>
  (gx_fI h a1 0 2).bind fun x2 =>
  if x2 ≤ v5 then
    fX1_digestOn_98 gx_N v0 v3 (0 : Int32) h
  else
    (gx_fR h v0 1 0).bind fun a3 =>
    (gx_fR h a3 0 4).bind fun a4 =>
    (gx_aI 0 h a4 v5).bind fun x5 =>
    (gx_fR h v0 1 0).bind fun a6 =>
    (gx_fR h a6 0 5).bind fun a7 =>
    (gx_aI 0 h a7 v5).bind fun x8 =>
    (gx_fR h v0 1 0).bind fun a9 =>
    (gx_fR h a9 0 6).bind fun a10 =>
    (gx_aI 0 h a10 v5).bind fun x11 =>
    (gx_fR h v0 1 0).bind fun a12 =>
    (gx_fR h a12 0 7).bind fun a13 =>
    (gx_aI 0 h a13 v5).bind fun x14 =>
    k5 v0 (((31 : Int64) * (((31 : Int64) * (((31 : Int64) * (((31 : Int64) * v3) + ((x5).toInt64))) + ((x8).toInt64))) + ((x11).toInt64))) + ((x14).toInt64)) (v5 + (1 : Int32)) h
def fX1_digestOn_5 : Nat → Nat → Int64 → Int32 → gx_H → Option (Int64 × gx_H)
  | 0 => fun _ _ _ _ => none
  | n + 1 => bX1_digestOn_5 (fX1_digestOn_5 n)
def fX1_digestOn (v0 : Nat) (v1 : Int64) (h : gx_H) : Option (Int64 × gx_H) :=
  (gx_isO h v0 1).bind fun _ =>
  fX1_digestOn_5 gx_N v0 v1 (0 : Int32) h
set_option maxRecDepth 100000 in
set_option maxHeartbeats 4000000 in
theorem gbX1_digestOn_98 {E : gx_Env} {d : Nat}  (k98 : Nat → Int64 → Int32 → gx_H → Option (Int64 × gx_H)) (hk98 : ∀ (v0 : Nat) (v3 : Int64) (v5 : Int32) (h : gx_H), gx_G E RX1 cX1_digestOn 6 (some .long) false (d + 1) 0 0 98 [some (.ref v0), none, none, some (.long v3), none, some (.int v5)] [] h (fun x : Int64 => some (.long x)) (k98 v0 v3 v5 h))  : ∀ (v0 : Nat) (v3 : Int64) (v5 : Int32) (h : gx_H), gx_G E RX1 cX1_digestOn 6 (some .long) false (d + 1) 0 0 98 [some (.ref v0), none, none, some (.long v3), none, some (.int v5)] [] h (fun x : Int64 => some (.long x)) (bX1_digestOn_98 k98 v0 v3 v5 h) := by
  intro v0 v3 v5 h
  unfold bX1_digestOn_98
  refine gx_iload dX1_digestOn_98 rfl ?_
  refine gx_aload_n 0 dX1_digestOn_100 rfl rfl ?_
  refine gx_getR kf_RX1_10 dX1_digestOn_101 (fun a15 => ?_)
  refine gx_getI kf_RX1_68 dX1_digestOn_104 (fun x16 => ?_)
  refine gx_icmp_ge 170 dX1_digestOn_107 (by decide) (fun _ => ?_) (fun _ => ?_)
  · refine gx_aload_n 0 dX1_digestOn_170 rfl rfl ?_
    refine gx_getR kf_RX1_30 dX1_digestOn_171 (fun a17 => ?_)
    refine gx_aload_n 0 dX1_digestOn_174 rfl rfl ?_
    refine gx_getR kf_RX1_26 dX1_digestOn_175 (fun a18 => ?_)
    refine gx_lload_n 3 dX1_digestOn_178 rfl rfl ?_
    refine gx_callV (ci := 5) (bc := 0) (bs := 0) (mc := 0) (ms := 0) (em' := (fun x : Int64 => some (.long x))) [.long v3] kc_RX1_80 rfl dX1_digestOn_179 rfl rfl (gx_w8 rfl) (fun x q => (gx_isO_of (by unfold fX7_digestOn at q; exact q)).2) (fun _ _ q => okX7_digestOn d q) (fun y20 h19 => ?_)
    refine gx_callV (ci := 5) (bc := 0) (bs := 0) (mc := 0) (ms := 0) (em' := (fun x : Int64 => some (.long x))) [.long y20] kc_RX1_80 rfl dX1_digestOn_182 rfl rfl (gx_w8 rfl) (fun x q => (gx_isO_of (by unfold fX7_digestOn at q; exact q)).2) (fun _ _ q => okX7_digestOn d q) (fun y22 h21 => ?_)
    exact gx_lret dX1_digestOn_185 rfl
  · refine gx_ldc2 kk_RX1_53 dX1_digestOn_110 ?_
    refine gx_lload_n 3 dX1_digestOn_113 rfl rfl ?_
    refine gx_lmul dX1_digestOn_114 ?_
    refine gx_aload_n 0 dX1_digestOn_115 rfl rfl ?_
    refine gx_getR kf_RX1_10 dX1_digestOn_116 (fun a23 => ?_)
    refine gx_getR kf_RX1_71 dX1_digestOn_119 (fun a24 => ?_)
    refine gx_iload dX1_digestOn_122 rfl ?_
    refine gx_iald dX1_digestOn_124 (fun x25 => ?_)
    refine gx_i2l dX1_digestOn_125 ?_
    refine gx_ladd dX1_digestOn_126 ?_
    refine gx_lstore_n 3 [some (.ref v0), none, none, some (.long (((31 : Int64) * v3) + ((x25).toInt64))), none, some (.int v5)] dX1_digestOn_127 rfl (by decide) rfl ?_
    refine gx_ldc2 kk_RX1_53 dX1_digestOn_128 ?_
    refine gx_lload_n 3 dX1_digestOn_131 rfl rfl ?_
    refine gx_lmul dX1_digestOn_132 ?_
    refine gx_aload_n 0 dX1_digestOn_133 rfl rfl ?_
    refine gx_getR kf_RX1_10 dX1_digestOn_134 (fun a26 => ?_)
    refine gx_getR kf_RX1_74 dX1_digestOn_137 (fun a27 => ?_)
    refine gx_iload dX1_digestOn_140 rfl ?_
    refine gx_iald dX1_digestOn_142 (fun x28 => ?_)
    refine gx_i2l dX1_digestOn_143 ?_
    refine gx_ladd dX1_digestOn_144 ?_
    refine gx_lstore_n 3 [some (.ref v0), none, none, some (.long (((31 : Int64) * (((31 : Int64) * v3) + ((x25).toInt64))) + ((x28).toInt64))), none, some (.int v5)] dX1_digestOn_145 rfl (by decide) rfl ?_
    refine gx_ldc2 kk_RX1_53 dX1_digestOn_146 ?_
    refine gx_lload_n 3 dX1_digestOn_149 rfl rfl ?_
    refine gx_lmul dX1_digestOn_150 ?_
    refine gx_aload_n 0 dX1_digestOn_151 rfl rfl ?_
    refine gx_getR kf_RX1_10 dX1_digestOn_152 (fun a29 => ?_)
    refine gx_getR kf_RX1_77 dX1_digestOn_155 (fun a30 => ?_)
    refine gx_iload dX1_digestOn_158 rfl ?_
    refine gx_iald dX1_digestOn_160 (fun x31 => ?_)
    refine gx_i2l dX1_digestOn_161 ?_
    refine gx_ladd dX1_digestOn_162 ?_
    refine gx_lstore_n 3 [some (.ref v0), none, none, some (.long (((31 : Int64) * (((31 : Int64) * (((31 : Int64) * v3) + ((x25).toInt64))) + ((x28).toInt64))) + ((x31).toInt64))), none, some (.int v5)] dX1_digestOn_163 rfl (by decide) rfl ?_
    refine gx_iinc (1 : Int32) [some (.ref v0), none, none, some (.long (((31 : Int64) * (((31 : Int64) * (((31 : Int64) * v3) + ((x25).toInt64))) + ((x28).toInt64))) + ((x31).toInt64))), none, some (.int (v5 + (1 : Int32)))] dX1_digestOn_164 rfl (by decide) (by decide) rfl ?_
    refine gx_goto 98 dX1_digestOn_167 (by decide) ?_
    exact gx_sub (hk98 v0 (((31 : Int64) * (((31 : Int64) * (((31 : Int64) * v3) + ((x25).toInt64))) + ((x28).toInt64))) + ((x31).toInt64)) (v5 + (1 : Int32)) h) (And.intro rfl (And.intro rfl (And.intro rfl True.intro)))
set_option maxRecDepth 100000 in
set_option maxHeartbeats 4000000 in
theorem gX1_digestOn_98 {E : gx_Env} {d : Nat}  : ∀ (n : Nat) (v0 : Nat) (v3 : Int64) (v5 : Int32) (h : gx_H), gx_G E RX1 cX1_digestOn 6 (some .long) false (d + 1) 0 0 98 [some (.ref v0), none, none, some (.long v3), none, some (.int v5)] [] h (fun x : Int64 => some (.long x)) (fX1_digestOn_98 n v0 v3 v5 h) := by
  intro n
  induction n with
  | zero => intro v0 v3 v5 h; exact gx_none
  | succ n ih => exact gbX1_digestOn_98  (fX1_digestOn_98  n) ih
set_option maxRecDepth 100000 in
set_option maxHeartbeats 4000000 in
theorem gbX1_digestOn_5 {E : gx_Env} {d : Nat}  (k5 : Nat → Int64 → Int32 → gx_H → Option (Int64 × gx_H)) (hk5 : ∀ (v0 : Nat) (v3 : Int64) (v5 : Int32) (h : gx_H), gx_G E RX1 cX1_digestOn 6 (some .long) false (d + 1) 0 0 5 [some (.ref v0), none, none, some (.long v3), none, some (.int v5)] [] h (fun x : Int64 => some (.long x)) (k5 v0 v3 v5 h))  : ∀ (v0 : Nat) (v3 : Int64) (v5 : Int32) (h : gx_H), gx_G E RX1 cX1_digestOn 6 (some .long) false (d + 1) 0 0 5 [some (.ref v0), none, none, some (.long v3), none, some (.int v5)] [] h (fun x : Int64 => some (.long x)) (bX1_digestOn_5 k5 v0 v3 v5 h) := by
  intro v0 v3 v5 h
  unfold bX1_digestOn_5
  refine gx_iload dX1_digestOn_5 rfl ?_
  refine gx_aload_n 0 dX1_digestOn_7 rfl rfl ?_
  refine gx_getR kf_RX1_10 dX1_digestOn_8 (fun a1 => ?_)
  refine gx_getI kf_RX1_49 dX1_digestOn_11 (fun x2 => ?_)
  refine gx_icmp_ge 95 dX1_digestOn_14 (by decide) (fun _ => ?_) (fun _ => ?_)
  · refine gx_iconst (0 : Int32) dX1_digestOn_95 (by decide) ?_
    refine gx_istore [some (.ref v0), none, none, some (.long v3), none, some (.int (0 : Int32))] dX1_digestOn_96 (by decide) rfl ?_
    exact gx_sub (gX1_digestOn_98 gx_N v0 v3 (0 : Int32) h) (And.intro rfl (And.intro rfl (And.intro rfl True.intro)))
  · refine gx_ldc2 kk_RX1_53 dX1_digestOn_17 ?_
    refine gx_lload_n 3 dX1_digestOn_20 rfl rfl ?_
    refine gx_lmul dX1_digestOn_21 ?_
    refine gx_aload_n 0 dX1_digestOn_22 rfl rfl ?_
    refine gx_getR kf_RX1_10 dX1_digestOn_23 (fun a3 => ?_)
    refine gx_getR kf_RX1_55 dX1_digestOn_26 (fun a4 => ?_)
    refine gx_iload dX1_digestOn_29 rfl ?_
    refine gx_iald dX1_digestOn_31 (fun x5 => ?_)
    refine gx_i2l dX1_digestOn_32 ?_
    refine gx_ladd dX1_digestOn_33 ?_
    refine gx_lstore_n 3 [some (.ref v0), none, none, some (.long (((31 : Int64) * v3) + ((x5).toInt64))), none, some (.int v5)] dX1_digestOn_34 rfl (by decide) rfl ?_
    refine gx_ldc2 kk_RX1_53 dX1_digestOn_35 ?_
    refine gx_lload_n 3 dX1_digestOn_38 rfl rfl ?_
    refine gx_lmul dX1_digestOn_39 ?_
    refine gx_aload_n 0 dX1_digestOn_40 rfl rfl ?_
    refine gx_getR kf_RX1_10 dX1_digestOn_41 (fun a6 => ?_)
    refine gx_getR kf_RX1_59 dX1_digestOn_44 (fun a7 => ?_)
    refine gx_iload dX1_digestOn_47 rfl ?_
    refine gx_iald dX1_digestOn_49 (fun x8 => ?_)
    refine gx_i2l dX1_digestOn_50 ?_
    refine gx_ladd dX1_digestOn_51 ?_
    refine gx_lstore_n 3 [some (.ref v0), none, none, some (.long (((31 : Int64) * (((31 : Int64) * v3) + ((x5).toInt64))) + ((x8).toInt64))), none, some (.int v5)] dX1_digestOn_52 rfl (by decide) rfl ?_
    refine gx_ldc2 kk_RX1_53 dX1_digestOn_53 ?_
    refine gx_lload_n 3 dX1_digestOn_56 rfl rfl ?_
    refine gx_lmul dX1_digestOn_57 ?_
    refine gx_aload_n 0 dX1_digestOn_58 rfl rfl ?_
    refine gx_getR kf_RX1_10 dX1_digestOn_59 (fun a9 => ?_)
    refine gx_getR kf_RX1_62 dX1_digestOn_62 (fun a10 => ?_)
    refine gx_iload dX1_digestOn_65 rfl ?_
    refine gx_iald dX1_digestOn_67 (fun x11 => ?_)
    refine gx_i2l dX1_digestOn_68 ?_
    refine gx_ladd dX1_digestOn_69 ?_
    refine gx_lstore_n 3 [some (.ref v0), none, none, some (.long (((31 : Int64) * (((31 : Int64) * (((31 : Int64) * v3) + ((x5).toInt64))) + ((x8).toInt64))) + ((x11).toInt64))), none, some (.int v5)] dX1_digestOn_70 rfl (by decide) rfl ?_
    refine gx_ldc2 kk_RX1_53 dX1_digestOn_71 ?_
    refine gx_lload_n 3 dX1_digestOn_74 rfl rfl ?_
    refine gx_lmul dX1_digestOn_75 ?_
    refine gx_aload_n 0 dX1_digestOn_76 rfl rfl ?_
    refine gx_getR kf_RX1_10 dX1_digestOn_77 (fun a12 => ?_)
    refine gx_getR kf_RX1_65 dX1_digestOn_80 (fun a13 => ?_)
    refine gx_iload dX1_digestOn_83 rfl ?_
    refine gx_iald dX1_digestOn_85 (fun x14 => ?_)
    refine gx_i2l dX1_digestOn_86 ?_
    refine gx_ladd dX1_digestOn_87 ?_
    refine gx_lstore_n 3 [some (.ref v0), none, none, some (.long (((31 : Int64) * (((31 : Int64) * (((31 : Int64) * (((31 : Int64) * v3) + ((x5).toInt64))) + ((x8).toInt64))) + ((x11).toInt64))) + ((x14).toInt64))), none, some (.int v5)] dX1_digestOn_88 rfl (by decide) rfl ?_
    refine gx_iinc (1 : Int32) [some (.ref v0), none, none, some (.long (((31 : Int64) * (((31 : Int64) * (((31 : Int64) * (((31 : Int64) * v3) + ((x5).toInt64))) + ((x8).toInt64))) + ((x11).toInt64))) + ((x14).toInt64))), none, some (.int (v5 + (1 : Int32)))] dX1_digestOn_89 rfl (by decide) (by decide) rfl ?_
    refine gx_goto 5 dX1_digestOn_92 (by decide) ?_
    exact gx_sub (hk5 v0 (((31 : Int64) * (((31 : Int64) * (((31 : Int64) * (((31 : Int64) * v3) + ((x5).toInt64))) + ((x8).toInt64))) + ((x11).toInt64))) + ((x14).toInt64)) (v5 + (1 : Int32)) h) (And.intro rfl (And.intro rfl (And.intro rfl True.intro)))
set_option maxRecDepth 100000 in
set_option maxHeartbeats 4000000 in
theorem gX1_digestOn_5 {E : gx_Env} {d : Nat}  : ∀ (n : Nat) (v0 : Nat) (v3 : Int64) (v5 : Int32) (h : gx_H), gx_G E RX1 cX1_digestOn 6 (some .long) false (d + 1) 0 0 5 [some (.ref v0), none, none, some (.long v3), none, some (.int v5)] [] h (fun x : Int64 => some (.long x)) (fX1_digestOn_5 n v0 v3 v5 h) := by
  intro n
  induction n with
  | zero => intro v0 v3 v5 h; exact gx_none
  | succ n ih => exact gbX1_digestOn_5  (fX1_digestOn_5  n) ih
set_option maxRecDepth 100000 in
set_option maxHeartbeats 4000000 in
theorem geX1_digestOn {E : gx_Env} {d : Nat} (v0 : Nat) (v1 : Int64) (h : gx_H) : gx_G E RX1 cX1_digestOn 6 (some .long) false (d + 1) 0 0 0 [some (.ref v0), some (.long v1), none, none, none, none] [] h (fun x : Int64 => some (.long x)) (fX1_digestOn v0 v1 h) := by
  unfold fX1_digestOn
  refine gx_bind fun _ _ => ?_
  refine gx_lload_n 1 dX1_digestOn_0 rfl rfl ?_
  refine gx_lstore_n 3 [some (.ref v0), some (.long v1), none, some (.long v1), none, none] dX1_digestOn_1 rfl (by decide) rfl ?_
  refine gx_iconst (0 : Int32) dX1_digestOn_2 (by decide) ?_
  refine gx_istore [some (.ref v0), some (.long v1), none, some (.long v1), none, some (.int (0 : Int32))] dX1_digestOn_3 (by decide) rfl ?_
  exact gx_sub (gX1_digestOn_5 gx_N v0 v1 (0 : Int32) h) (And.intro rfl (And.intro rfl (And.intro rfl True.intro)))
theorem okX1_digestOn {E : gx_Env} (d : Nat) {v0 : Nat} {v1 : Int64} {h : gx_H} {r : Int64} {h1 : gx_H} (q : fX1_digestOn v0 v1 h = some (r, h1)) : gx_M E yX1_digestOn cX1_digestOn 6 (some .long) (d + 1) 0 0 [.ref v0, .long v1] h ((fun x : Int64 => some (.long x)) r) h1 := gx_meth (y := yX1_digestOn) (cc := cX1_digestOn) (nL := 6) (em := (fun x : Int64 => some (.long x))) (ini := false) [.ref v0, .long v1] (by decide) (by simp [gx_sl]) (fun q => by cases q) (geX1_digestOn v0 v1 h) q
theorem dX2_init_0 : decode cX2_init 0 = .ok (.aload_n 0, 1) := by decide +kernel
theorem dX2_init_1 : decode cX2_init 1 = .ok (.invokespecial 3, 3) := by decide +kernel
theorem dX2_init_4 : decode cX2_init 4 = .ok (.aload_n 0, 1) := by decide +kernel
theorem dX2_init_5 : decode cX2_init 5 = .ok (.bipush 6, 2) := by decide +kernel
theorem dX2_init_7 : decode cX2_init 7 = .ok (.newarray .int, 2) := by decide +kernel
theorem dX2_init_9 : decode cX2_init 9 = .ok (.putfield 9, 3) := by decide +kernel
theorem dX2_init_12 : decode cX2_init 12 = .ok (.return_, 1) := by decide +kernel
def fX2_init (v0 : Nat) (h : gx_H) : Option (Unit × gx_H) :=
  gx_let (gx_new (.inl (0, 6, .inl (fun _ => 0))) h) fun h1 =>
  (gx_pF h1 v0 2 0 (.ref h.1)).bind fun h2 =>
  some ((), h2)
set_option maxRecDepth 100000 in
set_option maxHeartbeats 4000000 in
theorem geX2_init {E : gx_Env} {d : Nat} (v0 : Nat) (h : gx_H) : gx_G E RX2 cX2_init 1 none true (d + 1) 1 6 0 [some (.ref v0)] [] h (fun _ : Unit => none) (fX2_init v0 h) := by
  unfold fX2_init
  refine gx_aload_n 0 dX2_init_0 rfl rfl ?_
  refine gx_obj kk_RX2_3 ko_i ko_c dX2_init_1 (by decide) ?_
  refine gx_aload_n 0 dX2_init_4 rfl rfl ?_
  refine gx_bipush (6 : Int32) dX2_init_5 (by decide) ?_
  refine gx_newA0 (bc := 0) (bs := 0) 6 ka_int dX2_init_7 (by decide) (by decide) (by decide) ?_
  refine gx_letG ?_
  generalize (gx_new (.inl (0, 6, .inl (fun _ => 0))) h) = h1
  refine gx_putA kp_RX2_9 (fun _ => rfl) dX2_init_9 (fun h2 => ?_)
  exact gx_vret dX2_init_12 rfl
theorem okX2_init {E : gx_Env} (d : Nat) {v0 : Nat} {h : gx_H} {r : Unit} {h1 : gx_H} (q : fX2_init v0 h = some (r, h1)) : gx_M E yX2_init cX2_init 1 none (d + 1) 1 6 [.ref v0] h ((fun _ : Unit => none) r) h1 := gx_meth (y := yX2_init) (cc := cX2_init) (nL := 1) (em := (fun _ : Unit => none)) (ini := true) [.ref v0] (by decide) (by simp [gx_sl]) (fun _ => rfl) (geX2_init v0 h) q
theorem dX2_lead_0 : decode cX2_lead 0 = .ok (.iload_n 2, 1) := by decide +kernel
theorem dX2_lead_1 : decode cX2_lead 1 = .ok (.aload_n 0, 1) := by decide +kernel
theorem dX2_lead_2 : decode cX2_lead 2 = .ok (.getfield 41, 3) := by decide +kernel
theorem dX2_lead_5 : decode cX2_lead 5 = .ok (.iload_n 1, 1) := by decide +kernel
theorem dX2_lead_6 : decode cX2_lead 6 = .ok (.iaload, 1) := by decide +kernel
theorem dX2_lead_7 : decode cX2_lead 7 = .ok (.aload_n 0, 1) := by decide +kernel
theorem dX2_lead_8 : decode cX2_lead 8 = .ok (.getfield 46, 3) := by decide +kernel
theorem dX2_lead_11 : decode cX2_lead 11 = .ok (.iload_n 1, 1) := by decide +kernel
theorem dX2_lead_12 : decode cX2_lead 12 = .ok (.iaload, 1) := by decide +kernel
theorem dX2_lead_13 : decode cX2_lead 13 = .ok (.iload_n 3, 1) := by decide +kernel
theorem dX2_lead_14 : decode cX2_lead 14 = .ok (.iload 4, 2) := by decide +kernel
theorem dX2_lead_16 : decode cX2_lead 16 = .ok (.aload_n 0, 1) := by decide +kernel
theorem dX2_lead_17 : decode cX2_lead 17 = .ok (.getfield 49, 3) := by decide +kernel
theorem dX2_lead_20 : decode cX2_lead 20 = .ok (.invokestatic 52, 3) := by decide +kernel
theorem dX2_lead_23 : decode cX2_lead 23 = .ok (.ireturn, 1) := by decide +kernel
def fX2_lead (v0 : Nat) (v1 : Int32) (v2 : Int32) (v3 : Int32) (v4 : Int32) (h : gx_H) : Option (Int32 × gx_H) :=
  (gx_fR h v0 0 5).bind fun a1 =>
  (gx_aI 0 h a1 v1).bind fun x2 =>
  (gx_fR h v0 0 6).bind fun a3 =>
  (gx_aI 0 h a3 v1).bind fun x4 =>
  (gx_fI h v0 0 0).bind fun x5 =>
  gx_bd (fX4_square v2 x2 x4 v3 v4 x5 h) fun x7 h6 =>
  some (x7, h6)
set_option maxRecDepth 100000 in
set_option maxHeartbeats 4000000 in
theorem geX2_lead {E : gx_Env} {d : Nat} (v0 : Nat) (v1 : Int32) (v2 : Int32) (v3 : Int32) (v4 : Int32) (h : gx_H) : gx_G E RX2 cX2_lead 5 (some .int) false (d + 2) 0 0 0 [some (.ref v0), some (.int v1), some (.int v2), some (.int v3), some (.int v4)] [] h (fun x : Int32 => some (.int x)) (fX2_lead v0 v1 v2 v3 v4 h) := by
  unfold fX2_lead
  refine gx_iload_n 2 dX2_lead_0 rfl rfl ?_
  refine gx_aload_n 0 dX2_lead_1 rfl rfl ?_
  refine gx_getR kf_RX2_41 dX2_lead_2 (fun a1 => ?_)
  refine gx_iload_n 1 dX2_lead_5 rfl rfl ?_
  refine gx_iald dX2_lead_6 (fun x2 => ?_)
  refine gx_aload_n 0 dX2_lead_7 rfl rfl ?_
  refine gx_getR kf_RX2_46 dX2_lead_8 (fun a3 => ?_)
  refine gx_iload_n 1 dX2_lead_11 rfl rfl ?_
  refine gx_iald dX2_lead_12 (fun x4 => ?_)
  refine gx_iload_n 3 dX2_lead_13 rfl rfl ?_
  refine gx_iload dX2_lead_14 rfl ?_
  refine gx_aload_n 0 dX2_lead_16 rfl rfl ?_
  refine gx_getI kf_RX2_49 dX2_lead_17 (fun x5 => ?_)
  refine gx_callS (bc := 0) (bs := 0) (mc := 0) (ms := 0) (em' := (fun x : Int32 => some (.int x))) [.int v2, .int x2, .int x4, .int v3, .int v4, .int x5] kc_RX2_52 dX2_lead_20 rfl rfl (gx_w8 rfl) (fun _ _ q => okX4_square d q) (fun x7 h6 => ?_)
  exact gx_iret dX2_lead_23 rfl
theorem okX2_lead {E : gx_Env} (d : Nat) {v0 : Nat} {v1 : Int32} {v2 : Int32} {v3 : Int32} {v4 : Int32} {h : gx_H} {r : Int32} {h1 : gx_H} (q : fX2_lead v0 v1 v2 v3 v4 h = some (r, h1)) : gx_M E yX2_lead cX2_lead 5 (some .int) (d + 2) 0 0 [.ref v0, .int v1, .int v2, .int v3, .int v4] h ((fun x : Int32 => some (.int x)) r) h1 := gx_meth (y := yX2_lead) (cc := cX2_lead) (nL := 5) (em := (fun x : Int32 => some (.int x))) (ini := false) [.ref v0, .int v1, .int v2, .int v3, .int v4] (by decide) (by simp [gx_sl]) (fun q => by cases q) (geX2_lead v0 v1 v2 v3 v4 h) q
theorem dX2_fitsNotes_0 : decode cX2_fitsNotes 0 = .ok (.iconst 0, 1) := by decide +kernel
theorem dX2_fitsNotes_1 : decode cX2_fitsNotes 1 = .ok (.istore 5, 2) := by decide +kernel
theorem dX2_fitsNotes_3 : decode cX2_fitsNotes 3 = .ok (.iload 5, 2) := by decide +kernel
theorem dX2_fitsNotes_5 : decode cX2_fitsNotes 5 = .ok (.aload_n 2, 1) := by decide +kernel
theorem dX2_fitsNotes_6 : decode cX2_fitsNotes 6 = .ok (.getfield 19, 3) := by decide +kernel
theorem dX2_fitsNotes_9 : decode cX2_fitsNotes 9 = .ok (.if_icmp .ge 53, 3) := by decide +kernel
theorem dX2_fitsNotes_12 : decode cX2_fitsNotes 12 = .ok (.aload_n 2, 1) := by decide +kernel
theorem dX2_fitsNotes_13 : decode cX2_fitsNotes 13 = .ok (.getfield 25, 3) := by decide +kernel
theorem dX2_fitsNotes_16 : decode cX2_fitsNotes 16 = .ok (.iload 5, 2) := by decide +kernel
theorem dX2_fitsNotes_18 : decode cX2_fitsNotes 18 = .ok (.iaload, 1) := by decide +kernel
theorem dX2_fitsNotes_19 : decode cX2_fitsNotes 19 = .ok (.iload_n 3, 1) := by decide +kernel
theorem dX2_fitsNotes_20 : decode cX2_fitsNotes 20 = .ok (.if_icmp .ne 36, 3) := by decide +kernel
theorem dX2_fitsNotes_23 : decode cX2_fitsNotes 23 = .ok (.aload_n 2, 1) := by decide +kernel
theorem dX2_fitsNotes_24 : decode cX2_fitsNotes 24 = .ok (.getfield 28, 3) := by decide +kernel
theorem dX2_fitsNotes_27 : decode cX2_fitsNotes 27 = .ok (.iload 5, 2) := by decide +kernel
theorem dX2_fitsNotes_29 : decode cX2_fitsNotes 29 = .ok (.iaload, 1) := by decide +kernel
theorem dX2_fitsNotes_30 : decode cX2_fitsNotes 30 = .ok (.aload_n 1, 1) := by decide +kernel
theorem dX2_fitsNotes_31 : decode cX2_fitsNotes 31 = .ok (.iload_n 3, 1) := by decide +kernel
theorem dX2_fitsNotes_32 : decode cX2_fitsNotes 32 = .ok (.iload 4, 2) := by decide +kernel
theorem dX2_fitsNotes_34 : decode cX2_fitsNotes 34 = .ok (.aload_n 2, 1) := by decide +kernel
theorem dX2_fitsNotes_35 : decode cX2_fitsNotes 35 = .ok (.getfield 31, 3) := by decide +kernel
theorem dX2_fitsNotes_38 : decode cX2_fitsNotes 38 = .ok (.iload 5, 2) := by decide +kernel
theorem dX2_fitsNotes_40 : decode cX2_fitsNotes 40 = .ok (.iaload, 1) := by decide +kernel
theorem dX2_fitsNotes_41 : decode cX2_fitsNotes 41 = .ok (.aload_n 2, 1) := by decide +kernel
theorem dX2_fitsNotes_42 : decode cX2_fitsNotes 42 = .ok (.getfield 34, 3) := by decide +kernel
theorem dX2_fitsNotes_45 : decode cX2_fitsNotes 45 = .ok (.iload 5, 2) := by decide +kernel
theorem dX2_fitsNotes_47 : decode cX2_fitsNotes 47 = .ok (.iaload, 1) := by decide +kernel
theorem dX2_fitsNotes_48 : decode cX2_fitsNotes 48 = .ok (.invokestatic 37, 3) := by decide +kernel
theorem dX2_fitsNotes_51 : decode cX2_fitsNotes 51 = .ok (.if_icmp .eq 5, 3) := by decide +kernel
theorem dX2_fitsNotes_54 : decode cX2_fitsNotes 54 = .ok (.iconst 0, 1) := by decide +kernel
theorem dX2_fitsNotes_55 : decode cX2_fitsNotes 55 = .ok (.ireturn, 1) := by decide +kernel
theorem dX2_fitsNotes_56 : decode cX2_fitsNotes 56 = .ok (.iinc 5 1, 3) := by decide +kernel
theorem dX2_fitsNotes_59 : decode cX2_fitsNotes 59 = .ok (.goto (-56), 3) := by decide +kernel
theorem dX2_fitsNotes_62 : decode cX2_fitsNotes 62 = .ok (.iconst 1, 1) := by decide +kernel
theorem dX2_fitsNotes_63 : decode cX2_fitsNotes 63 = .ok (.ireturn, 1) := by decide +kernel
def fX2_fitsNotes_56 (k3 : Nat → Nat → Int32 → Int32 → Int32 → gx_H → Option (Int32 × gx_H)) (v1 : Nat) (v2 : Nat) (v3 : Int32) (v4 : Int32) (v5 : Int32) (h : gx_H) : Option (Int32 × gx_H) :=
  k3 v1 v2 v3 v4 (v5 + (1 : Int32)) h
def bX2_fitsNotes_3 (k3 : Nat → Nat → Int32 → Int32 → Int32 → gx_H → Option (Int32 × gx_H)) (v1 : Nat) (v2 : Nat) (v3 : Int32) (v4 : Int32) (v5 : Int32) (h : gx_H) : Option (Int32 × gx_H) :=
  (gx_fI h v2 5 0).bind fun x1 =>
  if x1 ≤ v5 then
    gx_ret .boolean (1 : Int32) h
  else
    (gx_fR h v2 5 1).bind fun a2 =>
    (gx_aI 0 h a2 v5).bind fun x3 =>
    if x3 = v3 then
      (gx_fR h v2 5 4).bind fun a4 =>
      (gx_aI 0 h a4 v5).bind fun x5 =>
      (gx_fR h v2 5 2).bind fun a6 =>
      (gx_aI 0 h a6 v5).bind fun x7 =>
      (gx_fR h v2 5 3).bind fun a8 =>
      (gx_aI 0 h a8 v5).bind fun x9 =>
      gx_bd (fX2_lead v1 v3 v4 x7 x9 h) fun x11 h10 =>
      if x5 = x11 then
        fX2_fitsNotes_56 k3 v1 v2 v3 v4 v5 h10
      else
        gx_ret .boolean (0 : Int32) h10
    else
      fX2_fitsNotes_56 k3 v1 v2 v3 v4 v5 h
def fX2_fitsNotes_3 : Nat → Nat → Nat → Int32 → Int32 → Int32 → gx_H → Option (Int32 × gx_H)
  | 0 => fun _ _ _ _ _ _ => none
  | n + 1 => bX2_fitsNotes_3 (fX2_fitsNotes_3 n)
def fX2_fitsNotes (v0 : Nat) (v1 : Nat) (v2 : Nat) (v3 : Int32) (v4 : Int32) (h : gx_H) : Option (Int32 × gx_H) :=
  (gx_isO h v0 2).bind fun _ =>
  fX2_fitsNotes_3 gx_N v1 v2 v3 v4 (0 : Int32) h
set_option maxRecDepth 100000 in
set_option maxHeartbeats 4000000 in
theorem gX2_fitsNotes_56 {E : gx_Env} {d : Nat} (k3 : Nat → Nat → Int32 → Int32 → Int32 → gx_H → Option (Int32 × gx_H)) (hk3 : ∀ (v1 : Nat) (v2 : Nat) (v3 : Int32) (v4 : Int32) (v5 : Int32) (h : gx_H), gx_G E RX2 cX2_fitsNotes 6 (some .boolean) false (d + 3) 0 0 3 [none, some (.ref v1), some (.ref v2), some (.int v3), some (.int v4), some (.int v5)] [] h (fun x : Int32 => some (.int x)) (k3 v1 v2 v3 v4 v5 h))  : ∀ (v1 : Nat) (v2 : Nat) (v3 : Int32) (v4 : Int32) (v5 : Int32) (h : gx_H), gx_G E RX2 cX2_fitsNotes 6 (some .boolean) false (d + 3) 0 0 56 [none, some (.ref v1), some (.ref v2), some (.int v3), some (.int v4), some (.int v5)] [] h (fun x : Int32 => some (.int x)) (fX2_fitsNotes_56 k3 v1 v2 v3 v4 v5 h) := by
  intro v1 v2 v3 v4 v5 h
  unfold fX2_fitsNotes_56
  refine gx_iinc (1 : Int32) [none, some (.ref v1), some (.ref v2), some (.int v3), some (.int v4), some (.int (v5 + (1 : Int32)))] dX2_fitsNotes_56 rfl (by decide) (by decide) rfl ?_
  refine gx_goto 3 dX2_fitsNotes_59 (by decide) ?_
  exact gx_sub (hk3 v1 v2 v3 v4 (v5 + (1 : Int32)) h) (And.intro rfl (And.intro rfl (And.intro rfl (And.intro rfl (And.intro rfl True.intro)))))
set_option maxRecDepth 100000 in
set_option maxHeartbeats 4000000 in
theorem gbX2_fitsNotes_3 {E : gx_Env} {d : Nat}  (k3 : Nat → Nat → Int32 → Int32 → Int32 → gx_H → Option (Int32 × gx_H)) (hk3 : ∀ (v1 : Nat) (v2 : Nat) (v3 : Int32) (v4 : Int32) (v5 : Int32) (h : gx_H), gx_G E RX2 cX2_fitsNotes 6 (some .boolean) false (d + 3) 0 0 3 [none, some (.ref v1), some (.ref v2), some (.int v3), some (.int v4), some (.int v5)] [] h (fun x : Int32 => some (.int x)) (k3 v1 v2 v3 v4 v5 h))  : ∀ (v1 : Nat) (v2 : Nat) (v3 : Int32) (v4 : Int32) (v5 : Int32) (h : gx_H), gx_G E RX2 cX2_fitsNotes 6 (some .boolean) false (d + 3) 0 0 3 [none, some (.ref v1), some (.ref v2), some (.int v3), some (.int v4), some (.int v5)] [] h (fun x : Int32 => some (.int x)) (bX2_fitsNotes_3 k3 v1 v2 v3 v4 v5 h) := by
  intro v1 v2 v3 v4 v5 h
  unfold bX2_fitsNotes_3
  refine gx_iload dX2_fitsNotes_3 rfl ?_
  refine gx_aload_n 2 dX2_fitsNotes_5 rfl rfl ?_
  refine gx_getI kf_RX2_19 dX2_fitsNotes_6 (fun x1 => ?_)
  refine gx_icmp_ge 62 dX2_fitsNotes_9 (by decide) (fun _ => ?_) (fun _ => ?_)
  · refine gx_iconst (1 : Int32) dX2_fitsNotes_62 (by decide) ?_
    exact gx_zret dX2_fitsNotes_63 rfl
  · refine gx_aload_n 2 dX2_fitsNotes_12 rfl rfl ?_
    refine gx_getR kf_RX2_25 dX2_fitsNotes_13 (fun a2 => ?_)
    refine gx_iload dX2_fitsNotes_16 rfl ?_
    refine gx_iald dX2_fitsNotes_18 (fun x3 => ?_)
    refine gx_iload_n 3 dX2_fitsNotes_19 rfl rfl ?_
    refine gx_icmp_ne 56 dX2_fitsNotes_20 (by decide) (fun _ => ?_) (fun _ => ?_)
    · exact gx_sub (gX2_fitsNotes_56 k3 hk3 v1 v2 v3 v4 v5 h) (And.intro rfl (And.intro rfl (And.intro rfl (And.intro rfl (And.intro rfl True.intro)))))
    · refine gx_aload_n 2 dX2_fitsNotes_23 rfl rfl ?_
      refine gx_getR kf_RX2_28 dX2_fitsNotes_24 (fun a4 => ?_)
      refine gx_iload dX2_fitsNotes_27 rfl ?_
      refine gx_iald dX2_fitsNotes_29 (fun x5 => ?_)
      refine gx_aload_n 1 dX2_fitsNotes_30 rfl rfl ?_
      refine gx_iload_n 3 dX2_fitsNotes_31 rfl rfl ?_
      refine gx_iload dX2_fitsNotes_32 rfl ?_
      refine gx_aload_n 2 dX2_fitsNotes_34 rfl rfl ?_
      refine gx_getR kf_RX2_31 dX2_fitsNotes_35 (fun a6 => ?_)
      refine gx_iload dX2_fitsNotes_38 rfl ?_
      refine gx_iald dX2_fitsNotes_40 (fun x7 => ?_)
      refine gx_aload_n 2 dX2_fitsNotes_41 rfl rfl ?_
      refine gx_getR kf_RX2_34 dX2_fitsNotes_42 (fun a8 => ?_)
      refine gx_iload dX2_fitsNotes_45 rfl ?_
      refine gx_iald dX2_fitsNotes_47 (fun x9 => ?_)
      refine gx_callS (bc := 0) (bs := 0) (mc := 0) (ms := 0) (em' := (fun x : Int32 => some (.int x))) [.ref v1, .int v3, .int v4, .int x7, .int x9] kc_RX2_37 dX2_fitsNotes_48 rfl rfl (gx_w8 rfl) (fun _ _ q => okX2_lead d q) (fun x11 h10 => ?_)
      refine gx_icmp_eq 56 dX2_fitsNotes_51 (by decide) (fun _ => ?_) (fun _ => ?_)
      · exact gx_sub (gX2_fitsNotes_56 k3 hk3 v1 v2 v3 v4 v5 h10) (And.intro rfl (And.intro rfl (And.intro rfl (And.intro rfl (And.intro rfl True.intro)))))
      · refine gx_iconst (0 : Int32) dX2_fitsNotes_54 (by decide) ?_
        exact gx_zret dX2_fitsNotes_55 rfl
set_option maxRecDepth 100000 in
set_option maxHeartbeats 4000000 in
theorem gX2_fitsNotes_3 {E : gx_Env} {d : Nat}  : ∀ (n : Nat) (v1 : Nat) (v2 : Nat) (v3 : Int32) (v4 : Int32) (v5 : Int32) (h : gx_H), gx_G E RX2 cX2_fitsNotes 6 (some .boolean) false (d + 3) 0 0 3 [none, some (.ref v1), some (.ref v2), some (.int v3), some (.int v4), some (.int v5)] [] h (fun x : Int32 => some (.int x)) (fX2_fitsNotes_3 n v1 v2 v3 v4 v5 h) := by
  intro n
  induction n with
  | zero => intro v1 v2 v3 v4 v5 h; exact gx_none
  | succ n ih => exact gbX2_fitsNotes_3  (fX2_fitsNotes_3  n) ih
set_option maxRecDepth 100000 in
set_option maxHeartbeats 4000000 in
theorem geX2_fitsNotes {E : gx_Env} {d : Nat} (v0 : Nat) (v1 : Nat) (v2 : Nat) (v3 : Int32) (v4 : Int32) (h : gx_H) : gx_G E RX2 cX2_fitsNotes 6 (some .boolean) false (d + 3) 0 0 0 [some (.ref v0), some (.ref v1), some (.ref v2), some (.int v3), some (.int v4), none] [] h (fun x : Int32 => some (.int x)) (fX2_fitsNotes v0 v1 v2 v3 v4 h) := by
  unfold fX2_fitsNotes
  refine gx_bind fun _ _ => ?_
  refine gx_iconst (0 : Int32) dX2_fitsNotes_0 (by decide) ?_
  refine gx_istore [some (.ref v0), some (.ref v1), some (.ref v2), some (.int v3), some (.int v4), some (.int (0 : Int32))] dX2_fitsNotes_1 (by decide) rfl ?_
  exact gx_sub (gX2_fitsNotes_3 gx_N v1 v2 v3 v4 (0 : Int32) h) (And.intro rfl (And.intro rfl (And.intro rfl (And.intro rfl (And.intro rfl True.intro)))))
theorem okX2_fitsNotes {E : gx_Env} (d : Nat) {v0 : Nat} {v1 : Nat} {v2 : Nat} {v3 : Int32} {v4 : Int32} {h : gx_H} {r : Int32} {h1 : gx_H} (q : fX2_fitsNotes v0 v1 v2 v3 v4 h = some (r, h1)) : gx_M E yX2_fitsNotes cX2_fitsNotes 6 (some .boolean) (d + 3) 0 0 [.ref v0, .ref v1, .ref v2, .int v3, .int v4] h ((fun x : Int32 => some (.int x)) r) h1 := gx_meth (y := yX2_fitsNotes) (cc := cX2_fitsNotes) (nL := 6) (em := (fun x : Int32 => some (.int x))) (ini := false) [.ref v0, .ref v1, .ref v2, .int v3, .int v4] (by decide) (by simp [gx_sl]) (fun q => by cases q) (geX2_fitsNotes v0 v1 v2 v3 v4 h) q
theorem dX2_linkKinds_0 : decode cX2_linkKinds 0 = .ok (.iconst 0, 1) := by decide +kernel
theorem dX2_linkKinds_1 : decode cX2_linkKinds 1 = .ok (.istore 4, 2) := by decide +kernel
theorem dX2_linkKinds_3 : decode cX2_linkKinds 3 = .ok (.iconst 0, 1) := by decide +kernel
theorem dX2_linkKinds_4 : decode cX2_linkKinds 4 = .ok (.istore 5, 2) := by decide +kernel
theorem dX2_linkKinds_6 : decode cX2_linkKinds 6 = .ok (.iload 5, 2) := by decide +kernel
theorem dX2_linkKinds_8 : decode cX2_linkKinds 8 = .ok (.bipush 6, 2) := by decide +kernel
theorem dX2_linkKinds_10 : decode cX2_linkKinds 10 = .ok (.if_icmp .ge 30, 3) := by decide +kernel
theorem dX2_linkKinds_13 : decode cX2_linkKinds 13 = .ok (.aload_n 0, 1) := by decide +kernel
theorem dX2_linkKinds_14 : decode cX2_linkKinds 14 = .ok (.aload_n 1, 1) := by decide +kernel
theorem dX2_linkKinds_15 : decode cX2_linkKinds 15 = .ok (.aload_n 2, 1) := by decide +kernel
theorem dX2_linkKinds_16 : decode cX2_linkKinds 16 = .ok (.iload_n 3, 1) := by decide +kernel
theorem dX2_linkKinds_17 : decode cX2_linkKinds 17 = .ok (.iload 5, 2) := by decide +kernel
theorem dX2_linkKinds_19 : decode cX2_linkKinds 19 = .ok (.invokevirtual 15, 3) := by decide +kernel
theorem dX2_linkKinds_22 : decode cX2_linkKinds 22 = .ok (.ifCond .eq 12, 3) := by decide +kernel
theorem dX2_linkKinds_25 : decode cX2_linkKinds 25 = .ok (.iload 4, 2) := by decide +kernel
theorem dX2_linkKinds_27 : decode cX2_linkKinds 27 = .ok (.iconst 1, 1) := by decide +kernel
theorem dX2_linkKinds_28 : decode cX2_linkKinds 28 = .ok (.iload 5, 2) := by decide +kernel
theorem dX2_linkKinds_30 : decode cX2_linkKinds 30 = .ok (.ishl, 1) := by decide +kernel
theorem dX2_linkKinds_31 : decode cX2_linkKinds 31 = .ok (.ior, 1) := by decide +kernel
theorem dX2_linkKinds_32 : decode cX2_linkKinds 32 = .ok (.istore 4, 2) := by decide +kernel
theorem dX2_linkKinds_34 : decode cX2_linkKinds 34 = .ok (.iinc 5 1, 3) := by decide +kernel
theorem dX2_linkKinds_37 : decode cX2_linkKinds 37 = .ok (.goto (-31), 3) := by decide +kernel
theorem dX2_linkKinds_40 : decode cX2_linkKinds 40 = .ok (.iload 4, 2) := by decide +kernel
theorem dX2_linkKinds_42 : decode cX2_linkKinds 42 = .ok (.ireturn, 1) := by decide +kernel
def fX2_linkKinds_34 (k6 : Nat → Nat → Nat → Int32 → Int32 → Int32 → gx_H → Option (Int32 × gx_H)) (v0 : Nat) (v1 : Nat) (v2 : Nat) (v3 : Int32) (v4 : Int32) (v5 : Int32) (h : gx_H) : Option (Int32 × gx_H) :=
  k6 v0 v1 v2 v3 v4 (v5 + (1 : Int32)) h
def bX2_linkKinds_6 (k6 : Nat → Nat → Nat → Int32 → Int32 → Int32 → gx_H → Option (Int32 × gx_H)) (v0 : Nat) (v1 : Nat) (v2 : Nat) (v3 : Int32) (v4 : Int32) (v5 : Int32) (h : gx_H) : Option (Int32 × gx_H) :=
  if (6 : Int32) ≤ v5 then
    some (v4, h)
  else
    gx_bd (fX2_fitsNotes v0 v1 v2 v3 v5 h) fun x2 h1 =>
    if x2 = 0 then
      fX2_linkKinds_34 k6 v0 v1 v2 v3 v4 v5 h1
    else
      fX2_linkKinds_34 k6 v0 v1 v2 v3 (v4 ||| ((1 : Int32) <<< (v5 &&& 31))) v5 h1
def fX2_linkKinds_6 : Nat → Nat → Nat → Nat → Int32 → Int32 → Int32 → gx_H → Option (Int32 × gx_H)
  | 0 => fun _ _ _ _ _ _ _ => none
  | n + 1 => bX2_linkKinds_6 (fX2_linkKinds_6 n)
def fX2_linkKinds (v0 : Nat) (v1 : Nat) (v2 : Nat) (v3 : Int32) (h : gx_H) : Option (Int32 × gx_H) :=
  (gx_isO h v0 2).bind fun _ =>
  fX2_linkKinds_6 gx_N v0 v1 v2 v3 (0 : Int32) (0 : Int32) h
set_option maxRecDepth 100000 in
set_option maxHeartbeats 4000000 in
theorem gX2_linkKinds_34 {E : gx_Env} {d : Nat} (k6 : Nat → Nat → Nat → Int32 → Int32 → Int32 → gx_H → Option (Int32 × gx_H)) (hk6 : ∀ (v0 : Nat) (v1 : Nat) (v2 : Nat) (v3 : Int32) (v4 : Int32) (v5 : Int32) (h : gx_H), gx_G E RX2 cX2_linkKinds 6 (some .int) false (d + 4) 0 0 6 [some (.ref v0), some (.ref v1), some (.ref v2), some (.int v3), some (.int v4), some (.int v5)] [] h (fun x : Int32 => some (.int x)) (k6 v0 v1 v2 v3 v4 v5 h))  : ∀ (v0 : Nat) (v1 : Nat) (v2 : Nat) (v3 : Int32) (v4 : Int32) (v5 : Int32) (h : gx_H), gx_G E RX2 cX2_linkKinds 6 (some .int) false (d + 4) 0 0 34 [some (.ref v0), some (.ref v1), some (.ref v2), some (.int v3), some (.int v4), some (.int v5)] [] h (fun x : Int32 => some (.int x)) (fX2_linkKinds_34 k6 v0 v1 v2 v3 v4 v5 h) := by
  intro v0 v1 v2 v3 v4 v5 h
  unfold fX2_linkKinds_34
  refine gx_iinc (1 : Int32) [some (.ref v0), some (.ref v1), some (.ref v2), some (.int v3), some (.int v4), some (.int (v5 + (1 : Int32)))] dX2_linkKinds_34 rfl (by decide) (by decide) rfl ?_
  refine gx_goto 6 dX2_linkKinds_37 (by decide) ?_
  exact gx_sub (hk6 v0 v1 v2 v3 v4 (v5 + (1 : Int32)) h) (And.intro rfl (And.intro rfl (And.intro rfl (And.intro rfl (And.intro rfl (And.intro rfl True.intro))))))
set_option maxRecDepth 100000 in
set_option maxHeartbeats 4000000 in
theorem gbX2_linkKinds_6 {E : gx_Env} {d : Nat}  (k6 : Nat → Nat → Nat → Int32 → Int32 → Int32 → gx_H → Option (Int32 × gx_H)) (hk6 : ∀ (v0 : Nat) (v1 : Nat) (v2 : Nat) (v3 : Int32) (v4 : Int32) (v5 : Int32) (h : gx_H), gx_G E RX2 cX2_linkKinds 6 (some .int) false (d + 4) 0 0 6 [some (.ref v0), some (.ref v1), some (.ref v2), some (.int v3), some (.int v4), some (.int v5)] [] h (fun x : Int32 => some (.int x)) (k6 v0 v1 v2 v3 v4 v5 h))  : ∀ (v0 : Nat) (v1 : Nat) (v2 : Nat) (v3 : Int32) (v4 : Int32) (v5 : Int32) (h : gx_H), gx_G E RX2 cX2_linkKinds 6 (some .int) false (d + 4) 0 0 6 [some (.ref v0), some (.ref v1), some (.ref v2), some (.int v3), some (.int v4), some (.int v5)] [] h (fun x : Int32 => some (.int x)) (bX2_linkKinds_6 k6 v0 v1 v2 v3 v4 v5 h) := by
  intro v0 v1 v2 v3 v4 v5 h
  unfold bX2_linkKinds_6
  refine gx_iload dX2_linkKinds_6 rfl ?_
  refine gx_bipush (6 : Int32) dX2_linkKinds_8 (by decide) ?_
  refine gx_icmp_ge 40 dX2_linkKinds_10 (by decide) (fun _ => ?_) (fun _ => ?_)
  · refine gx_iload dX2_linkKinds_40 rfl ?_
    exact gx_iret dX2_linkKinds_42 rfl
  · refine gx_aload_n 0 dX2_linkKinds_13 rfl rfl ?_
    refine gx_aload_n 1 dX2_linkKinds_14 rfl rfl ?_
    refine gx_aload_n 2 dX2_linkKinds_15 rfl rfl ?_
    refine gx_iload_n 3 dX2_linkKinds_16 rfl rfl ?_
    refine gx_iload dX2_linkKinds_17 rfl ?_
    refine gx_callV (ci := 2) (bc := 0) (bs := 0) (mc := 0) (ms := 0) (em' := (fun x : Int32 => some (.int x))) [.ref v1, .ref v2, .int v3, .int v5] kc_RX2_15 rfl dX2_linkKinds_19 rfl rfl (gx_w8 rfl) (fun x q => (gx_isO_of (by unfold fX2_fitsNotes at q; exact q)).2) (fun _ _ q => okX2_fitsNotes d q) (fun x2 h1 => ?_)
    refine gx_if_eq 34 dX2_linkKinds_22 (by decide) (fun _ => ?_) (fun _ => ?_)
    · exact gx_sub (gX2_linkKinds_34 k6 hk6 v0 v1 v2 v3 v4 v5 h1) (And.intro rfl (And.intro rfl (And.intro rfl (And.intro rfl (And.intro rfl (And.intro rfl True.intro))))))
    · refine gx_iload dX2_linkKinds_25 rfl ?_
      refine gx_iconst (1 : Int32) dX2_linkKinds_27 (by decide) ?_
      refine gx_iload dX2_linkKinds_28 rfl ?_
      refine gx_ishl dX2_linkKinds_30 ?_
      refine gx_ior dX2_linkKinds_31 ?_
      refine gx_istore [some (.ref v0), some (.ref v1), some (.ref v2), some (.int v3), some (.int (v4 ||| ((1 : Int32) <<< (v5 &&& 31)))), some (.int v5)] dX2_linkKinds_32 (by decide) rfl ?_
      exact gx_sub (gX2_linkKinds_34 k6 hk6 v0 v1 v2 v3 (v4 ||| ((1 : Int32) <<< (v5 &&& 31))) v5 h1) (And.intro rfl (And.intro rfl (And.intro rfl (And.intro rfl (And.intro rfl (And.intro rfl True.intro))))))
set_option maxRecDepth 100000 in
set_option maxHeartbeats 4000000 in
theorem gX2_linkKinds_6 {E : gx_Env} {d : Nat}  : ∀ (n : Nat) (v0 : Nat) (v1 : Nat) (v2 : Nat) (v3 : Int32) (v4 : Int32) (v5 : Int32) (h : gx_H), gx_G E RX2 cX2_linkKinds 6 (some .int) false (d + 4) 0 0 6 [some (.ref v0), some (.ref v1), some (.ref v2), some (.int v3), some (.int v4), some (.int v5)] [] h (fun x : Int32 => some (.int x)) (fX2_linkKinds_6 n v0 v1 v2 v3 v4 v5 h) := by
  intro n
  induction n with
  | zero => intro v0 v1 v2 v3 v4 v5 h; exact gx_none
  | succ n ih => exact gbX2_linkKinds_6  (fX2_linkKinds_6  n) ih
set_option maxRecDepth 100000 in
set_option maxHeartbeats 4000000 in
theorem geX2_linkKinds {E : gx_Env} {d : Nat} (v0 : Nat) (v1 : Nat) (v2 : Nat) (v3 : Int32) (h : gx_H) : gx_G E RX2 cX2_linkKinds 6 (some .int) false (d + 4) 0 0 0 [some (.ref v0), some (.ref v1), some (.ref v2), some (.int v3), none, none] [] h (fun x : Int32 => some (.int x)) (fX2_linkKinds v0 v1 v2 v3 h) := by
  unfold fX2_linkKinds
  refine gx_bind fun _ _ => ?_
  refine gx_iconst (0 : Int32) dX2_linkKinds_0 (by decide) ?_
  refine gx_istore [some (.ref v0), some (.ref v1), some (.ref v2), some (.int v3), some (.int (0 : Int32)), none] dX2_linkKinds_1 (by decide) rfl ?_
  refine gx_iconst (0 : Int32) dX2_linkKinds_3 (by decide) ?_
  refine gx_istore [some (.ref v0), some (.ref v1), some (.ref v2), some (.int v3), some (.int (0 : Int32)), some (.int (0 : Int32))] dX2_linkKinds_4 (by decide) rfl ?_
  exact gx_sub (gX2_linkKinds_6 gx_N v0 v1 v2 v3 (0 : Int32) (0 : Int32) h) (And.intro rfl (And.intro rfl (And.intro rfl (And.intro rfl (And.intro rfl (And.intro rfl True.intro))))))
theorem okX2_linkKinds {E : gx_Env} (d : Nat) {v0 : Nat} {v1 : Nat} {v2 : Nat} {v3 : Int32} {h : gx_H} {r : Int32} {h1 : gx_H} (q : fX2_linkKinds v0 v1 v2 v3 h = some (r, h1)) : gx_M E yX2_linkKinds cX2_linkKinds 6 (some .int) (d + 4) 0 0 [.ref v0, .ref v1, .ref v2, .int v3] h ((fun x : Int32 => some (.int x)) r) h1 := gx_meth (y := yX2_linkKinds) (cc := cX2_linkKinds) (nL := 6) (em := (fun x : Int32 => some (.int x))) (ini := false) [.ref v0, .ref v1, .ref v2, .int v3] (by decide) (by simp [gx_sl]) (fun q => by cases q) (geX2_linkKinds v0 v1 v2 v3 h) q
theorem dX2_alikeTo_0 : decode cX2_alikeTo 0 = .ok (.iconst 0, 1) := by decide +kernel
theorem dX2_alikeTo_1 : decode cX2_alikeTo 1 = .ok (.istore_n 3, 1) := by decide +kernel
theorem dX2_alikeTo_2 : decode cX2_alikeTo 2 = .ok (.iconst 0, 1) := by decide +kernel
theorem dX2_alikeTo_3 : decode cX2_alikeTo 3 = .ok (.istore 4, 2) := by decide +kernel
theorem dX2_alikeTo_5 : decode cX2_alikeTo 5 = .ok (.iload 4, 2) := by decide +kernel
theorem dX2_alikeTo_7 : decode cX2_alikeTo 7 = .ok (.bipush 6, 2) := by decide +kernel
theorem dX2_alikeTo_9 : decode cX2_alikeTo 9 = .ok (.if_icmp .ge 38, 3) := by decide +kernel
theorem dX2_alikeTo_12 : decode cX2_alikeTo 12 = .ok (.iload_n 2, 1) := by decide +kernel
theorem dX2_alikeTo_13 : decode cX2_alikeTo 13 = .ok (.iload 4, 2) := by decide +kernel
theorem dX2_alikeTo_15 : decode cX2_alikeTo 15 = .ok (.ishr, 1) := by decide +kernel
theorem dX2_alikeTo_16 : decode cX2_alikeTo 16 = .ok (.iconst 1, 1) := by decide +kernel
theorem dX2_alikeTo_17 : decode cX2_alikeTo 17 = .ok (.iand, 1) := by decide +kernel
theorem dX2_alikeTo_18 : decode cX2_alikeTo 18 = .ok (.iconst 1, 1) := by decide +kernel
theorem dX2_alikeTo_19 : decode cX2_alikeTo 19 = .ok (.if_icmp .ne 22, 3) := by decide +kernel
theorem dX2_alikeTo_22 : decode cX2_alikeTo 22 = .ok (.aload_n 0, 1) := by decide +kernel
theorem dX2_alikeTo_23 : decode cX2_alikeTo 23 = .ok (.getfield 9, 3) := by decide +kernel
theorem dX2_alikeTo_26 : decode cX2_alikeTo 26 = .ok (.iload 4, 2) := by decide +kernel
theorem dX2_alikeTo_28 : decode cX2_alikeTo 28 = .ok (.iaload, 1) := by decide +kernel
theorem dX2_alikeTo_29 : decode cX2_alikeTo 29 = .ok (.aload_n 0, 1) := by decide +kernel
theorem dX2_alikeTo_30 : decode cX2_alikeTo 30 = .ok (.getfield 9, 3) := by decide +kernel
theorem dX2_alikeTo_33 : decode cX2_alikeTo 33 = .ok (.iload_n 1, 1) := by decide +kernel
theorem dX2_alikeTo_34 : decode cX2_alikeTo 34 = .ok (.iaload, 1) := by decide +kernel
theorem dX2_alikeTo_35 : decode cX2_alikeTo 35 = .ok (.if_icmp .ne 6, 3) := by decide +kernel
theorem dX2_alikeTo_38 : decode cX2_alikeTo 38 = .ok (.iinc 3 1, 3) := by decide +kernel
theorem dX2_alikeTo_41 : decode cX2_alikeTo 41 = .ok (.iinc 4 1, 3) := by decide +kernel
theorem dX2_alikeTo_44 : decode cX2_alikeTo 44 = .ok (.goto (-39), 3) := by decide +kernel
theorem dX2_alikeTo_47 : decode cX2_alikeTo 47 = .ok (.iload_n 3, 1) := by decide +kernel
theorem dX2_alikeTo_48 : decode cX2_alikeTo 48 = .ok (.ireturn, 1) := by decide +kernel
def fX2_alikeTo_41 (k5 : Nat → Int32 → Int32 → Int32 → Int32 → gx_H → Option (Int32 × gx_H)) (v0 : Nat) (v1 : Int32) (v2 : Int32) (v3 : Int32) (v4 : Int32) (h : gx_H) : Option (Int32 × gx_H) :=
  k5 v0 v1 v2 v3 (v4 + (1 : Int32)) h
def bX2_alikeTo_5 (k5 : Nat → Int32 → Int32 → Int32 → Int32 → gx_H → Option (Int32 × gx_H)) (v0 : Nat) (v1 : Int32) (v2 : Int32) (v3 : Int32) (v4 : Int32) (h : gx_H) : Option (Int32 × gx_H) :=
  if (6 : Int32) ≤ v4 then
    some (v3, h)
  else
    if ((v2 >>> (v4 &&& 31)) &&& (1 : Int32)) = (1 : Int32) then
      (gx_fR h v0 2 0).bind fun a1 =>
      (gx_aI 0 h a1 v4).bind fun x2 =>
      (gx_fR h v0 2 0).bind fun a3 =>
      (gx_aI 0 h a3 v1).bind fun x4 =>
      if x2 = x4 then
        fX2_alikeTo_41 k5 v0 v1 v2 (v3 + (1 : Int32)) v4 h
      else
        fX2_alikeTo_41 k5 v0 v1 v2 v3 v4 h
    else
      fX2_alikeTo_41 k5 v0 v1 v2 v3 v4 h
def fX2_alikeTo_5 : Nat → Nat → Int32 → Int32 → Int32 → Int32 → gx_H → Option (Int32 × gx_H)
  | 0 => fun _ _ _ _ _ _ => none
  | n + 1 => bX2_alikeTo_5 (fX2_alikeTo_5 n)
def fX2_alikeTo (v0 : Nat) (v1 : Int32) (v2 : Int32) (h : gx_H) : Option (Int32 × gx_H) :=
  (gx_isO h v0 2).bind fun _ =>
  fX2_alikeTo_5 gx_N v0 v1 v2 (0 : Int32) (0 : Int32) h
set_option maxRecDepth 100000 in
set_option maxHeartbeats 4000000 in
theorem gX2_alikeTo_41 {E : gx_Env} {d : Nat} (k5 : Nat → Int32 → Int32 → Int32 → Int32 → gx_H → Option (Int32 × gx_H)) (hk5 : ∀ (v0 : Nat) (v1 : Int32) (v2 : Int32) (v3 : Int32) (v4 : Int32) (h : gx_H), gx_G E RX2 cX2_alikeTo 5 (some .int) false d 0 0 5 [some (.ref v0), some (.int v1), some (.int v2), some (.int v3), some (.int v4)] [] h (fun x : Int32 => some (.int x)) (k5 v0 v1 v2 v3 v4 h))  : ∀ (v0 : Nat) (v1 : Int32) (v2 : Int32) (v3 : Int32) (v4 : Int32) (h : gx_H), gx_G E RX2 cX2_alikeTo 5 (some .int) false d 0 0 41 [some (.ref v0), some (.int v1), some (.int v2), some (.int v3), some (.int v4)] [] h (fun x : Int32 => some (.int x)) (fX2_alikeTo_41 k5 v0 v1 v2 v3 v4 h) := by
  intro v0 v1 v2 v3 v4 h
  unfold fX2_alikeTo_41
  refine gx_iinc (1 : Int32) [some (.ref v0), some (.int v1), some (.int v2), some (.int v3), some (.int (v4 + (1 : Int32)))] dX2_alikeTo_41 rfl (by decide) (by decide) rfl ?_
  refine gx_goto 5 dX2_alikeTo_44 (by decide) ?_
  exact gx_sub (hk5 v0 v1 v2 v3 (v4 + (1 : Int32)) h) (And.intro rfl (And.intro rfl (And.intro rfl (And.intro rfl (And.intro rfl True.intro)))))
set_option maxRecDepth 100000 in
set_option maxHeartbeats 4000000 in
theorem gbX2_alikeTo_5 {E : gx_Env} {d : Nat}  (k5 : Nat → Int32 → Int32 → Int32 → Int32 → gx_H → Option (Int32 × gx_H)) (hk5 : ∀ (v0 : Nat) (v1 : Int32) (v2 : Int32) (v3 : Int32) (v4 : Int32) (h : gx_H), gx_G E RX2 cX2_alikeTo 5 (some .int) false d 0 0 5 [some (.ref v0), some (.int v1), some (.int v2), some (.int v3), some (.int v4)] [] h (fun x : Int32 => some (.int x)) (k5 v0 v1 v2 v3 v4 h))  : ∀ (v0 : Nat) (v1 : Int32) (v2 : Int32) (v3 : Int32) (v4 : Int32) (h : gx_H), gx_G E RX2 cX2_alikeTo 5 (some .int) false d 0 0 5 [some (.ref v0), some (.int v1), some (.int v2), some (.int v3), some (.int v4)] [] h (fun x : Int32 => some (.int x)) (bX2_alikeTo_5 k5 v0 v1 v2 v3 v4 h) := by
  intro v0 v1 v2 v3 v4 h
  unfold bX2_alikeTo_5
  refine gx_iload dX2_alikeTo_5 rfl ?_
  refine gx_bipush (6 : Int32) dX2_alikeTo_7 (by decide) ?_
  refine gx_icmp_ge 47 dX2_alikeTo_9 (by decide) (fun _ => ?_) (fun _ => ?_)
  · refine gx_iload_n 3 dX2_alikeTo_47 rfl rfl ?_
    exact gx_iret dX2_alikeTo_48 rfl
  · refine gx_iload_n 2 dX2_alikeTo_12 rfl rfl ?_
    refine gx_iload dX2_alikeTo_13 rfl ?_
    refine gx_ishr dX2_alikeTo_15 ?_
    refine gx_iconst (1 : Int32) dX2_alikeTo_16 (by decide) ?_
    refine gx_iand dX2_alikeTo_17 ?_
    refine gx_iconst (1 : Int32) dX2_alikeTo_18 (by decide) ?_
    refine gx_icmp_ne 41 dX2_alikeTo_19 (by decide) (fun _ => ?_) (fun _ => ?_)
    · exact gx_sub (gX2_alikeTo_41 k5 hk5 v0 v1 v2 v3 v4 h) (And.intro rfl (And.intro rfl (And.intro rfl (And.intro rfl (And.intro rfl True.intro)))))
    · refine gx_aload_n 0 dX2_alikeTo_22 rfl rfl ?_
      refine gx_getR kf_RX2_9 dX2_alikeTo_23 (fun a1 => ?_)
      refine gx_iload dX2_alikeTo_26 rfl ?_
      refine gx_iald dX2_alikeTo_28 (fun x2 => ?_)
      refine gx_aload_n 0 dX2_alikeTo_29 rfl rfl ?_
      refine gx_getR kf_RX2_9 dX2_alikeTo_30 (fun a3 => ?_)
      refine gx_iload_n 1 dX2_alikeTo_33 rfl rfl ?_
      refine gx_iald dX2_alikeTo_34 (fun x4 => ?_)
      refine gx_icmp_ne 41 dX2_alikeTo_35 (by decide) (fun _ => ?_) (fun _ => ?_)
      · exact gx_sub (gX2_alikeTo_41 k5 hk5 v0 v1 v2 v3 v4 h) (And.intro rfl (And.intro rfl (And.intro rfl (And.intro rfl (And.intro rfl True.intro)))))
      · refine gx_iinc (1 : Int32) [some (.ref v0), some (.int v1), some (.int v2), some (.int (v3 + (1 : Int32))), some (.int v4)] dX2_alikeTo_38 rfl (by decide) (by decide) rfl ?_
        exact gx_sub (gX2_alikeTo_41 k5 hk5 v0 v1 v2 (v3 + (1 : Int32)) v4 h) (And.intro rfl (And.intro rfl (And.intro rfl (And.intro rfl (And.intro rfl True.intro)))))
set_option maxRecDepth 100000 in
set_option maxHeartbeats 4000000 in
theorem gX2_alikeTo_5 {E : gx_Env} {d : Nat}  : ∀ (n : Nat) (v0 : Nat) (v1 : Int32) (v2 : Int32) (v3 : Int32) (v4 : Int32) (h : gx_H), gx_G E RX2 cX2_alikeTo 5 (some .int) false d 0 0 5 [some (.ref v0), some (.int v1), some (.int v2), some (.int v3), some (.int v4)] [] h (fun x : Int32 => some (.int x)) (fX2_alikeTo_5 n v0 v1 v2 v3 v4 h) := by
  intro n
  induction n with
  | zero => intro v0 v1 v2 v3 v4 h; exact gx_none
  | succ n ih => exact gbX2_alikeTo_5  (fX2_alikeTo_5  n) ih
set_option maxRecDepth 100000 in
set_option maxHeartbeats 4000000 in
theorem geX2_alikeTo {E : gx_Env} {d : Nat} (v0 : Nat) (v1 : Int32) (v2 : Int32) (h : gx_H) : gx_G E RX2 cX2_alikeTo 5 (some .int) false d 0 0 0 [some (.ref v0), some (.int v1), some (.int v2), none, none] [] h (fun x : Int32 => some (.int x)) (fX2_alikeTo v0 v1 v2 h) := by
  unfold fX2_alikeTo
  refine gx_bind fun _ _ => ?_
  refine gx_iconst (0 : Int32) dX2_alikeTo_0 (by decide) ?_
  refine gx_istore_n 3 [some (.ref v0), some (.int v1), some (.int v2), some (.int (0 : Int32)), none] dX2_alikeTo_1 rfl (by decide) rfl ?_
  refine gx_iconst (0 : Int32) dX2_alikeTo_2 (by decide) ?_
  refine gx_istore [some (.ref v0), some (.int v1), some (.int v2), some (.int (0 : Int32)), some (.int (0 : Int32))] dX2_alikeTo_3 (by decide) rfl ?_
  exact gx_sub (gX2_alikeTo_5 gx_N v0 v1 v2 (0 : Int32) (0 : Int32) h) (And.intro rfl (And.intro rfl (And.intro rfl (And.intro rfl (And.intro rfl True.intro)))))
theorem okX2_alikeTo {E : gx_Env} (d : Nat) {v0 : Nat} {v1 : Int32} {v2 : Int32} {h : gx_H} {r : Int32} {h1 : gx_H} (q : fX2_alikeTo v0 v1 v2 h = some (r, h1)) : gx_M E yX2_alikeTo cX2_alikeTo 5 (some .int) d 0 0 [.ref v0, .int v1, .int v2] h ((fun x : Int32 => some (.int x)) r) h1 := gx_meth (y := yX2_alikeTo) (cc := cX2_alikeTo) (nL := 5) (em := (fun x : Int32 => some (.int x))) (ini := false) [.ref v0, .int v1, .int v2] (by decide) (by simp [gx_sl]) (fun q => by cases q) (geX2_alikeTo v0 v1 v2 h) q
theorem dX2_mostAlike_0 : decode cX2_mostAlike 0 = .ok (.iconst 0, 1) := by decide +kernel
theorem dX2_mostAlike_1 : decode cX2_mostAlike 1 = .ok (.istore_n 2, 1) := by decide +kernel
theorem dX2_mostAlike_2 : decode cX2_mostAlike 2 = .ok (.iconst 0, 1) := by decide +kernel
theorem dX2_mostAlike_3 : decode cX2_mostAlike 3 = .ok (.istore_n 3, 1) := by decide +kernel
theorem dX2_mostAlike_4 : decode cX2_mostAlike 4 = .ok (.iload_n 3, 1) := by decide +kernel
theorem dX2_mostAlike_5 : decode cX2_mostAlike 5 = .ok (.bipush 6, 2) := by decide +kernel
theorem dX2_mostAlike_7 : decode cX2_mostAlike 7 = .ok (.if_icmp .ge 29, 3) := by decide +kernel
theorem dX2_mostAlike_10 : decode cX2_mostAlike 10 = .ok (.iload_n 1, 1) := by decide +kernel
theorem dX2_mostAlike_11 : decode cX2_mostAlike 11 = .ok (.iload_n 3, 1) := by decide +kernel
theorem dX2_mostAlike_12 : decode cX2_mostAlike 12 = .ok (.ishr, 1) := by decide +kernel
theorem dX2_mostAlike_13 : decode cX2_mostAlike 13 = .ok (.iconst 1, 1) := by decide +kernel
theorem dX2_mostAlike_14 : decode cX2_mostAlike 14 = .ok (.iand, 1) := by decide +kernel
theorem dX2_mostAlike_15 : decode cX2_mostAlike 15 = .ok (.iconst 1, 1) := by decide +kernel
theorem dX2_mostAlike_16 : decode cX2_mostAlike 16 = .ok (.if_icmp .ne 14, 3) := by decide +kernel
theorem dX2_mostAlike_19 : decode cX2_mostAlike 19 = .ok (.iload_n 2, 1) := by decide +kernel
theorem dX2_mostAlike_20 : decode cX2_mostAlike 20 = .ok (.aload_n 0, 1) := by decide +kernel
theorem dX2_mostAlike_21 : decode cX2_mostAlike 21 = .ok (.iload_n 3, 1) := by decide +kernel
theorem dX2_mostAlike_22 : decode cX2_mostAlike 22 = .ok (.iload_n 1, 1) := by decide +kernel
theorem dX2_mostAlike_23 : decode cX2_mostAlike 23 = .ok (.invokevirtual 77, 3) := by decide +kernel
theorem dX2_mostAlike_26 : decode cX2_mostAlike 26 = .ok (.invokestatic 81, 3) := by decide +kernel
theorem dX2_mostAlike_29 : decode cX2_mostAlike 29 = .ok (.istore_n 2, 1) := by decide +kernel
theorem dX2_mostAlike_30 : decode cX2_mostAlike 30 = .ok (.iinc 3 1, 3) := by decide +kernel
theorem dX2_mostAlike_33 : decode cX2_mostAlike 33 = .ok (.goto (-29), 3) := by decide +kernel
theorem dX2_mostAlike_36 : decode cX2_mostAlike 36 = .ok (.iload_n 2, 1) := by decide +kernel
theorem dX2_mostAlike_37 : decode cX2_mostAlike 37 = .ok (.ireturn, 1) := by decide +kernel
def fX2_mostAlike_30 (k4 : Nat → Int32 → Int32 → Int32 → gx_H → Option (Int32 × gx_H)) (v0 : Nat) (v1 : Int32) (v2 : Int32) (v3 : Int32) (h : gx_H) : Option (Int32 × gx_H) :=
  k4 v0 v1 v2 (v3 + (1 : Int32)) h
def bX2_mostAlike_4 (k4 : Nat → Int32 → Int32 → Int32 → gx_H → Option (Int32 × gx_H)) (v0 : Nat) (v1 : Int32) (v2 : Int32) (v3 : Int32) (h : gx_H) : Option (Int32 × gx_H) :=
  if (6 : Int32) ≤ v3 then
    some (v2, h)
  else
    if ((v1 >>> (v3 &&& 31)) &&& (1 : Int32)) = (1 : Int32) then
      gx_bd (fX2_alikeTo v0 v3 v1 h) fun x2 h1 =>
      fX2_mostAlike_30 k4 v0 v1 (if v2 < x2 then x2 else v2) v3 h1
    else
      fX2_mostAlike_30 k4 v0 v1 v2 v3 h
def fX2_mostAlike_4 : Nat → Nat → Int32 → Int32 → Int32 → gx_H → Option (Int32 × gx_H)
  | 0 => fun _ _ _ _ _ => none
  | n + 1 => bX2_mostAlike_4 (fX2_mostAlike_4 n)
def fX2_mostAlike (v0 : Nat) (v1 : Int32) (h : gx_H) : Option (Int32 × gx_H) :=
  (gx_isO h v0 2).bind fun _ =>
  fX2_mostAlike_4 gx_N v0 v1 (0 : Int32) (0 : Int32) h
set_option maxRecDepth 100000 in
set_option maxHeartbeats 4000000 in
theorem gX2_mostAlike_30 {E : gx_Env} {d : Nat} (k4 : Nat → Int32 → Int32 → Int32 → gx_H → Option (Int32 × gx_H)) (hk4 : ∀ (v0 : Nat) (v1 : Int32) (v2 : Int32) (v3 : Int32) (h : gx_H), gx_G E RX2 cX2_mostAlike 4 (some .int) false (d + 1) 0 0 4 [some (.ref v0), some (.int v1), some (.int v2), some (.int v3)] [] h (fun x : Int32 => some (.int x)) (k4 v0 v1 v2 v3 h))  : ∀ (v0 : Nat) (v1 : Int32) (v2 : Int32) (v3 : Int32) (h : gx_H), gx_G E RX2 cX2_mostAlike 4 (some .int) false (d + 1) 0 0 30 [some (.ref v0), some (.int v1), some (.int v2), some (.int v3)] [] h (fun x : Int32 => some (.int x)) (fX2_mostAlike_30 k4 v0 v1 v2 v3 h) := by
  intro v0 v1 v2 v3 h
  unfold fX2_mostAlike_30
  refine gx_iinc (1 : Int32) [some (.ref v0), some (.int v1), some (.int v2), some (.int (v3 + (1 : Int32)))] dX2_mostAlike_30 rfl (by decide) (by decide) rfl ?_
  refine gx_goto 4 dX2_mostAlike_33 (by decide) ?_
  exact gx_sub (hk4 v0 v1 v2 (v3 + (1 : Int32)) h) (And.intro rfl (And.intro rfl (And.intro rfl (And.intro rfl True.intro))))
set_option maxRecDepth 100000 in
set_option maxHeartbeats 4000000 in
theorem gbX2_mostAlike_4 {E : gx_Env} {d : Nat}  (k4 : Nat → Int32 → Int32 → Int32 → gx_H → Option (Int32 × gx_H)) (hk4 : ∀ (v0 : Nat) (v1 : Int32) (v2 : Int32) (v3 : Int32) (h : gx_H), gx_G E RX2 cX2_mostAlike 4 (some .int) false (d + 1) 0 0 4 [some (.ref v0), some (.int v1), some (.int v2), some (.int v3)] [] h (fun x : Int32 => some (.int x)) (k4 v0 v1 v2 v3 h))  : ∀ (v0 : Nat) (v1 : Int32) (v2 : Int32) (v3 : Int32) (h : gx_H), gx_G E RX2 cX2_mostAlike 4 (some .int) false (d + 1) 0 0 4 [some (.ref v0), some (.int v1), some (.int v2), some (.int v3)] [] h (fun x : Int32 => some (.int x)) (bX2_mostAlike_4 k4 v0 v1 v2 v3 h) := by
  intro v0 v1 v2 v3 h
  unfold bX2_mostAlike_4
  refine gx_iload_n 3 dX2_mostAlike_4 rfl rfl ?_
  refine gx_bipush (6 : Int32) dX2_mostAlike_5 (by decide) ?_
  refine gx_icmp_ge 36 dX2_mostAlike_7 (by decide) (fun _ => ?_) (fun _ => ?_)
  · refine gx_iload_n 2 dX2_mostAlike_36 rfl rfl ?_
    exact gx_iret dX2_mostAlike_37 rfl
  · refine gx_iload_n 1 dX2_mostAlike_10 rfl rfl ?_
    refine gx_iload_n 3 dX2_mostAlike_11 rfl rfl ?_
    refine gx_ishr dX2_mostAlike_12 ?_
    refine gx_iconst (1 : Int32) dX2_mostAlike_13 (by decide) ?_
    refine gx_iand dX2_mostAlike_14 ?_
    refine gx_iconst (1 : Int32) dX2_mostAlike_15 (by decide) ?_
    refine gx_icmp_ne 30 dX2_mostAlike_16 (by decide) (fun _ => ?_) (fun _ => ?_)
    · exact gx_sub (gX2_mostAlike_30 k4 hk4 v0 v1 v2 v3 h) (And.intro rfl (And.intro rfl (And.intro rfl (And.intro rfl True.intro))))
    · refine gx_iload_n 2 dX2_mostAlike_19 rfl rfl ?_
      refine gx_aload_n 0 dX2_mostAlike_20 rfl rfl ?_
      refine gx_iload_n 3 dX2_mostAlike_21 rfl rfl ?_
      refine gx_iload_n 1 dX2_mostAlike_22 rfl rfl ?_
      refine gx_callV (ci := 2) (bc := 0) (bs := 0) (mc := 0) (ms := 0) (em' := (fun x : Int32 => some (.int x))) [.int v3, .int v1] kc_RX2_77 rfl dX2_mostAlike_23 rfl rfl (gx_w8 rfl) (fun x q => (gx_isO_of (by unfold fX2_alikeTo at q; exact q)).2) (fun _ _ q => okX2_alikeTo d q) (fun x2 h1 => ?_)
      refine gx_mmax kk_RX2_81 km_max_s km_i km_max_c dX2_mostAlike_26 (gx_w8 rfl) ?_
      refine gx_istore_n 2 [some (.ref v0), some (.int v1), some (.int (if v2 < x2 then x2 else v2)), some (.int v3)] dX2_mostAlike_29 rfl (by decide) rfl ?_
      exact gx_sub (gX2_mostAlike_30 k4 hk4 v0 v1 (if v2 < x2 then x2 else v2) v3 h1) (And.intro rfl (And.intro rfl (And.intro rfl (And.intro rfl True.intro))))
set_option maxRecDepth 100000 in
set_option maxHeartbeats 4000000 in
theorem gX2_mostAlike_4 {E : gx_Env} {d : Nat}  : ∀ (n : Nat) (v0 : Nat) (v1 : Int32) (v2 : Int32) (v3 : Int32) (h : gx_H), gx_G E RX2 cX2_mostAlike 4 (some .int) false (d + 1) 0 0 4 [some (.ref v0), some (.int v1), some (.int v2), some (.int v3)] [] h (fun x : Int32 => some (.int x)) (fX2_mostAlike_4 n v0 v1 v2 v3 h) := by
  intro n
  induction n with
  | zero => intro v0 v1 v2 v3 h; exact gx_none
  | succ n ih => exact gbX2_mostAlike_4  (fX2_mostAlike_4  n) ih
set_option maxRecDepth 100000 in
set_option maxHeartbeats 4000000 in
theorem geX2_mostAlike {E : gx_Env} {d : Nat} (v0 : Nat) (v1 : Int32) (h : gx_H) : gx_G E RX2 cX2_mostAlike 4 (some .int) false (d + 1) 0 0 0 [some (.ref v0), some (.int v1), none, none] [] h (fun x : Int32 => some (.int x)) (fX2_mostAlike v0 v1 h) := by
  unfold fX2_mostAlike
  refine gx_bind fun _ _ => ?_
  refine gx_iconst (0 : Int32) dX2_mostAlike_0 (by decide) ?_
  refine gx_istore_n 2 [some (.ref v0), some (.int v1), some (.int (0 : Int32)), none] dX2_mostAlike_1 rfl (by decide) rfl ?_
  refine gx_iconst (0 : Int32) dX2_mostAlike_2 (by decide) ?_
  refine gx_istore_n 3 [some (.ref v0), some (.int v1), some (.int (0 : Int32)), some (.int (0 : Int32))] dX2_mostAlike_3 rfl (by decide) rfl ?_
  exact gx_sub (gX2_mostAlike_4 gx_N v0 v1 (0 : Int32) (0 : Int32) h) (And.intro rfl (And.intro rfl (And.intro rfl (And.intro rfl True.intro))))
theorem okX2_mostAlike {E : gx_Env} (d : Nat) {v0 : Nat} {v1 : Int32} {h : gx_H} {r : Int32} {h1 : gx_H} (q : fX2_mostAlike v0 v1 h = some (r, h1)) : gx_M E yX2_mostAlike cX2_mostAlike 4 (some .int) (d + 1) 0 0 [.ref v0, .int v1] h ((fun x : Int32 => some (.int x)) r) h1 := gx_meth (y := yX2_mostAlike) (cc := cX2_mostAlike) (nL := 4) (em := (fun x : Int32 => some (.int x))) (ini := false) [.ref v0, .int v1] (by decide) (by simp [gx_sl]) (fun q => by cases q) (geX2_mostAlike v0 v1 h) q
theorem dX2_bestLook_0 : decode cX2_bestLook 0 = .ok (.aload_n 0, 1) := by decide +kernel
theorem dX2_bestLook_1 : decode cX2_bestLook 1 = .ok (.aload_n 1, 1) := by decide +kernel
theorem dX2_bestLook_2 : decode cX2_bestLook 2 = .ok (.aload_n 2, 1) := by decide +kernel
theorem dX2_bestLook_3 : decode cX2_bestLook 3 = .ok (.iload_n 3, 1) := by decide +kernel
theorem dX2_bestLook_4 : decode cX2_bestLook 4 = .ok (.invokevirtual 58, 3) := by decide +kernel
theorem dX2_bestLook_7 : decode cX2_bestLook 7 = .ok (.istore 4, 2) := by decide +kernel
theorem dX2_bestLook_9 : decode cX2_bestLook 9 = .ok (.iconst (-1), 1) := by decide +kernel
theorem dX2_bestLook_10 : decode cX2_bestLook 10 = .ok (.istore 5, 2) := by decide +kernel
theorem dX2_bestLook_12 : decode cX2_bestLook 12 = .ok (.bipush 7, 2) := by decide +kernel
theorem dX2_bestLook_14 : decode cX2_bestLook 14 = .ok (.istore 6, 2) := by decide +kernel
theorem dX2_bestLook_16 : decode cX2_bestLook 16 = .ok (.iconst 0, 1) := by decide +kernel
theorem dX2_bestLook_17 : decode cX2_bestLook 17 = .ok (.istore 7, 2) := by decide +kernel
theorem dX2_bestLook_19 : decode cX2_bestLook 19 = .ok (.iload 7, 2) := by decide +kernel
theorem dX2_bestLook_21 : decode cX2_bestLook 21 = .ok (.iconst 3, 1) := by decide +kernel
theorem dX2_bestLook_22 : decode cX2_bestLook 22 = .ok (.if_icmp .gt 93, 3) := by decide +kernel
theorem dX2_bestLook_25 : decode cX2_bestLook 25 = .ok (.iload 4, 2) := by decide +kernel
theorem dX2_bestLook_27 : decode cX2_bestLook 27 = .ok (.ifCond .eq 88, 3) := by decide +kernel
theorem dX2_bestLook_30 : decode cX2_bestLook 30 = .ok (.iconst 1, 1) := by decide +kernel
theorem dX2_bestLook_31 : decode cX2_bestLook 31 = .ok (.istore 8, 2) := by decide +kernel
theorem dX2_bestLook_33 : decode cX2_bestLook 33 = .ok (.iload 8, 2) := by decide +kernel
theorem dX2_bestLook_35 : decode cX2_bestLook 35 = .ok (.bipush 6, 2) := by decide +kernel
theorem dX2_bestLook_37 : decode cX2_bestLook 37 = .ok (.if_icmp .gt 72, 3) := by decide +kernel
theorem dX2_bestLook_40 : decode cX2_bestLook 40 = .ok (.iconst 0, 1) := by decide +kernel
theorem dX2_bestLook_41 : decode cX2_bestLook 41 = .ok (.istore 9, 2) := by decide +kernel
theorem dX2_bestLook_43 : decode cX2_bestLook 43 = .ok (.iload 9, 2) := by decide +kernel
theorem dX2_bestLook_45 : decode cX2_bestLook 45 = .ok (.bipush 6, 2) := by decide +kernel
theorem dX2_bestLook_47 : decode cX2_bestLook 47 = .ok (.if_icmp .ge 27, 3) := by decide +kernel
theorem dX2_bestLook_50 : decode cX2_bestLook 50 = .ok (.aload_n 0, 1) := by decide +kernel
theorem dX2_bestLook_51 : decode cX2_bestLook 51 = .ok (.getfield 9, 3) := by decide +kernel
theorem dX2_bestLook_54 : decode cX2_bestLook 54 = .ok (.iload 9, 2) := by decide +kernel
theorem dX2_bestLook_56 : decode cX2_bestLook 56 = .ok (.aload_n 1, 1) := by decide +kernel
theorem dX2_bestLook_57 : decode cX2_bestLook 57 = .ok (.iload_n 3, 1) := by decide +kernel
theorem dX2_bestLook_58 : decode cX2_bestLook 58 = .ok (.iload 9, 2) := by decide +kernel
theorem dX2_bestLook_60 : decode cX2_bestLook 60 = .ok (.iload 7, 2) := by decide +kernel
theorem dX2_bestLook_62 : decode cX2_bestLook 62 = .ok (.iload 8, 2) := by decide +kernel
theorem dX2_bestLook_64 : decode cX2_bestLook 64 = .ok (.invokestatic 37, 3) := by decide +kernel
theorem dX2_bestLook_67 : decode cX2_bestLook 67 = .ok (.iastore, 1) := by decide +kernel
theorem dX2_bestLook_68 : decode cX2_bestLook 68 = .ok (.iinc 9 1, 3) := by decide +kernel
theorem dX2_bestLook_71 : decode cX2_bestLook 71 = .ok (.goto (-28), 3) := by decide +kernel
theorem dX2_bestLook_74 : decode cX2_bestLook 74 = .ok (.aload_n 0, 1) := by decide +kernel
theorem dX2_bestLook_75 : decode cX2_bestLook 75 = .ok (.iload 4, 2) := by decide +kernel
theorem dX2_bestLook_77 : decode cX2_bestLook 77 = .ok (.invokevirtual 62, 3) := by decide +kernel
theorem dX2_bestLook_80 : decode cX2_bestLook 80 = .ok (.istore 9, 2) := by decide +kernel
theorem dX2_bestLook_82 : decode cX2_bestLook 82 = .ok (.iload 9, 2) := by decide +kernel
theorem dX2_bestLook_84 : decode cX2_bestLook 84 = .ok (.iload 6, 2) := by decide +kernel
theorem dX2_bestLook_86 : decode cX2_bestLook 86 = .ok (.if_icmp .ge 17, 3) := by decide +kernel
theorem dX2_bestLook_89 : decode cX2_bestLook 89 = .ok (.iload 9, 2) := by decide +kernel
theorem dX2_bestLook_91 : decode cX2_bestLook 91 = .ok (.istore 6, 2) := by decide +kernel
theorem dX2_bestLook_93 : decode cX2_bestLook 93 = .ok (.bipush 10, 2) := by decide +kernel
theorem dX2_bestLook_95 : decode cX2_bestLook 95 = .ok (.iload 7, 2) := by decide +kernel
theorem dX2_bestLook_97 : decode cX2_bestLook 97 = .ok (.imul, 1) := by decide +kernel
theorem dX2_bestLook_98 : decode cX2_bestLook 98 = .ok (.iload 8, 2) := by decide +kernel
theorem dX2_bestLook_100 : decode cX2_bestLook 100 = .ok (.iadd, 1) := by decide +kernel
theorem dX2_bestLook_101 : decode cX2_bestLook 101 = .ok (.istore 5, 2) := by decide +kernel
theorem dX2_bestLook_103 : decode cX2_bestLook 103 = .ok (.iinc 8 1, 3) := by decide +kernel
theorem dX2_bestLook_106 : decode cX2_bestLook 106 = .ok (.goto (-73), 3) := by decide +kernel
theorem dX2_bestLook_109 : decode cX2_bestLook 109 = .ok (.iinc 7 1, 3) := by decide +kernel
theorem dX2_bestLook_112 : decode cX2_bestLook 112 = .ok (.goto (-93), 3) := by decide +kernel
theorem dX2_bestLook_115 : decode cX2_bestLook 115 = .ok (.iload 5, 2) := by decide +kernel
theorem dX2_bestLook_117 : decode cX2_bestLook 117 = .ok (.ireturn, 1) := by decide +kernel
def fX2_bestLook_103 (k19 : Nat → Nat → Int32 → Int32 → Int32 → Int32 → Int32 → gx_H → Option (Int32 × gx_H)) (k33 : Nat → Nat → Int32 → Int32 → Int32 → Int32 → Int32 → Int32 → gx_H → Option (Int32 × gx_H)) (v0 : Nat) (v1 : Nat) (v3 : Int32) (v4 : Int32) (v5 : Int32) (v6 : Int32) (v7 : Int32) (v8 : Int32) (h : gx_H) : Option (Int32 × gx_H) :=
  k33 v0 v1 v3 v4 v5 v6 v7 (v8 + (1 : Int32)) h
def bX2_bestLook_43 (k19 : Nat → Nat → Int32 → Int32 → Int32 → Int32 → Int32 → gx_H → Option (Int32 × gx_H)) (k33 : Nat → Nat → Int32 → Int32 → Int32 → Int32 → Int32 → Int32 → gx_H → Option (Int32 × gx_H)) (k43 : Nat → Nat → Int32 → Int32 → Int32 → Int32 → Int32 → Int32 → Int32 → gx_H → Option (Int32 × gx_H)) (v0 : Nat) (v1 : Nat) (v3 : Int32) (v4 : Int32) (v5 : Int32) (v6 : Int32) (v7 : Int32) (v8 : Int32) (v9 : Int32) (h : gx_H) : Option (Int32 × gx_H) :=
  if (6 : Int32) ≤ v9 then
    gx_bd (fX2_mostAlike v0 v4 h) fun x4 h3 =>
    if v6 ≤ x4 then
      fX2_bestLook_103 k19 k33 v0 v1 v3 v4 v5 v6 v7 v8 h3
    else
      fX2_bestLook_103 k19 k33 v0 v1 v3 v4 (((10 : Int32) * v7) + v8) x4 v7 v8 h3
  else
    (gx_fR h v0 2 0).bind fun a5 =>
    gx_bd (fX2_lead v1 v3 v9 v7 v8 h) fun x7 h6 =>
    (gx_sI 0 h6 a5 v9 x7).bind fun h8 =>
    k43 v0 v1 v3 v4 v5 v6 v7 v8 (v9 + (1 : Int32)) h8
def fX2_bestLook_43 (k19 : Nat → Nat → Int32 → Int32 → Int32 → Int32 → Int32 → gx_H → Option (Int32 × gx_H)) (k33 : Nat → Nat → Int32 → Int32 → Int32 → Int32 → Int32 → Int32 → gx_H → Option (Int32 × gx_H)) : Nat → Nat → Nat → Int32 → Int32 → Int32 → Int32 → Int32 → Int32 → Int32 → gx_H → Option (Int32 × gx_H)
  | 0 => fun _ _ _ _ _ _ _ _ _ _ => none
  | n + 1 => bX2_bestLook_43 k19 k33 (fX2_bestLook_43 k19 k33 n)
def bX2_bestLook_33 (k19 : Nat → Nat → Int32 → Int32 → Int32 → Int32 → Int32 → gx_H → Option (Int32 × gx_H)) (k33 : Nat → Nat → Int32 → Int32 → Int32 → Int32 → Int32 → Int32 → gx_H → Option (Int32 × gx_H)) (v0 : Nat) (v1 : Nat) (v3 : Int32) (v4 : Int32) (v5 : Int32) (v6 : Int32) (v7 : Int32) (v8 : Int32) (h : gx_H) : Option (Int32 × gx_H) :=
  if (6 : Int32) < v8 then
    k19 v0 v1 v3 v4 v5 v6 (v7 + (1 : Int32)) h
  else
    fX2_bestLook_43 k19 k33 gx_N v0 v1 v3 v4 v5 v6 v7 v8 (0 : Int32) h
def fX2_bestLook_33 (k19 : Nat → Nat → Int32 → Int32 → Int32 → Int32 → Int32 → gx_H → Option (Int32 × gx_H)) : Nat → Nat → Nat → Int32 → Int32 → Int32 → Int32 → Int32 → Int32 → gx_H → Option (Int32 × gx_H)
  | 0 => fun _ _ _ _ _ _ _ _ _ => none
  | n + 1 => bX2_bestLook_33 k19 (fX2_bestLook_33 k19 n)
def fX2_bestLook_115 (v5 : Int32) (h : gx_H) : Option (Int32 × gx_H) :=
  some (v5, h)
def bX2_bestLook_19 (k19 : Nat → Nat → Int32 → Int32 → Int32 → Int32 → Int32 → gx_H → Option (Int32 × gx_H)) (v0 : Nat) (v1 : Nat) (v3 : Int32) (v4 : Int32) (v5 : Int32) (v6 : Int32) (v7 : Int32) (h : gx_H) : Option (Int32 × gx_H) :=
  if (3 : Int32) < v7 then
    fX2_bestLook_115 v5 h
  else
    if v4 = 0 then
      fX2_bestLook_115 v5 h
    else
      fX2_bestLook_33 k19 gx_N v0 v1 v3 v4 v5 v6 v7 (1 : Int32) h
def fX2_bestLook_19 : Nat → Nat → Nat → Int32 → Int32 → Int32 → Int32 → Int32 → gx_H → Option (Int32 × gx_H)
  | 0 => fun _ _ _ _ _ _ _ _ => none
  | n + 1 => bX2_bestLook_19 (fX2_bestLook_19 n)
def fX2_bestLook (v0 : Nat) (v1 : Nat) (v2 : Nat) (v3 : Int32) (h : gx_H) : Option (Int32 × gx_H) :=
  (gx_isO h v0 2).bind fun _ =>
  gx_bd (fX2_linkKinds v0 v1 v2 v3 h) fun x2 h1 =>
  fX2_bestLook_19 gx_N v0 v1 v3 x2 (-1 : Int32) (7 : Int32) (0 : Int32) h1
set_option maxRecDepth 100000 in
set_option maxHeartbeats 4000000 in
theorem gX2_bestLook_103 {E : gx_Env} {d : Nat} (k19 : Nat → Nat → Int32 → Int32 → Int32 → Int32 → Int32 → gx_H → Option (Int32 × gx_H)) (hk19 : ∀ (v0 : Nat) (v1 : Nat) (v3 : Int32) (v4 : Int32) (v5 : Int32) (v6 : Int32) (v7 : Int32) (h : gx_H), gx_G E RX2 cX2_bestLook 10 (some .int) false (d + 5) 0 0 19 [some (.ref v0), some (.ref v1), none, some (.int v3), some (.int v4), some (.int v5), some (.int v6), some (.int v7), none, none] [] h (fun x : Int32 => some (.int x)) (k19 v0 v1 v3 v4 v5 v6 v7 h))  (k33 : Nat → Nat → Int32 → Int32 → Int32 → Int32 → Int32 → Int32 → gx_H → Option (Int32 × gx_H)) (hk33 : ∀ (v0 : Nat) (v1 : Nat) (v3 : Int32) (v4 : Int32) (v5 : Int32) (v6 : Int32) (v7 : Int32) (v8 : Int32) (h : gx_H), gx_G E RX2 cX2_bestLook 10 (some .int) false (d + 5) 0 0 33 [some (.ref v0), some (.ref v1), none, some (.int v3), some (.int v4), some (.int v5), some (.int v6), some (.int v7), some (.int v8), none] [] h (fun x : Int32 => some (.int x)) (k33 v0 v1 v3 v4 v5 v6 v7 v8 h))  : ∀ (v0 : Nat) (v1 : Nat) (v3 : Int32) (v4 : Int32) (v5 : Int32) (v6 : Int32) (v7 : Int32) (v8 : Int32) (h : gx_H), gx_G E RX2 cX2_bestLook 10 (some .int) false (d + 5) 0 0 103 [some (.ref v0), some (.ref v1), none, some (.int v3), some (.int v4), some (.int v5), some (.int v6), some (.int v7), some (.int v8), none] [] h (fun x : Int32 => some (.int x)) (fX2_bestLook_103 k19 k33 v0 v1 v3 v4 v5 v6 v7 v8 h) := by
  intro v0 v1 v3 v4 v5 v6 v7 v8 h
  unfold fX2_bestLook_103
  refine gx_iinc (1 : Int32) [some (.ref v0), some (.ref v1), none, some (.int v3), some (.int v4), some (.int v5), some (.int v6), some (.int v7), some (.int (v8 + (1 : Int32))), none] dX2_bestLook_103 rfl (by decide) (by decide) rfl ?_
  refine gx_goto 33 dX2_bestLook_106 (by decide) ?_
  exact gx_sub (hk33 v0 v1 v3 v4 v5 v6 v7 (v8 + (1 : Int32)) h) (And.intro rfl (And.intro rfl (And.intro rfl (And.intro rfl (And.intro rfl (And.intro rfl (And.intro rfl (And.intro rfl True.intro))))))))
set_option maxRecDepth 100000 in
set_option maxHeartbeats 4000000 in
theorem gbX2_bestLook_43 {E : gx_Env} {d : Nat} (k19 : Nat → Nat → Int32 → Int32 → Int32 → Int32 → Int32 → gx_H → Option (Int32 × gx_H)) (hk19 : ∀ (v0 : Nat) (v1 : Nat) (v3 : Int32) (v4 : Int32) (v5 : Int32) (v6 : Int32) (v7 : Int32) (h : gx_H), gx_G E RX2 cX2_bestLook 10 (some .int) false (d + 5) 0 0 19 [some (.ref v0), some (.ref v1), none, some (.int v3), some (.int v4), some (.int v5), some (.int v6), some (.int v7), none, none] [] h (fun x : Int32 => some (.int x)) (k19 v0 v1 v3 v4 v5 v6 v7 h))  (k33 : Nat → Nat → Int32 → Int32 → Int32 → Int32 → Int32 → Int32 → gx_H → Option (Int32 × gx_H)) (hk33 : ∀ (v0 : Nat) (v1 : Nat) (v3 : Int32) (v4 : Int32) (v5 : Int32) (v6 : Int32) (v7 : Int32) (v8 : Int32) (h : gx_H), gx_G E RX2 cX2_bestLook 10 (some .int) false (d + 5) 0 0 33 [some (.ref v0), some (.ref v1), none, some (.int v3), some (.int v4), some (.int v5), some (.int v6), some (.int v7), some (.int v8), none] [] h (fun x : Int32 => some (.int x)) (k33 v0 v1 v3 v4 v5 v6 v7 v8 h))  (k43 : Nat → Nat → Int32 → Int32 → Int32 → Int32 → Int32 → Int32 → Int32 → gx_H → Option (Int32 × gx_H)) (hk43 : ∀ (v0 : Nat) (v1 : Nat) (v3 : Int32) (v4 : Int32) (v5 : Int32) (v6 : Int32) (v7 : Int32) (v8 : Int32) (v9 : Int32) (h : gx_H), gx_G E RX2 cX2_bestLook 10 (some .int) false (d + 5) 0 0 43 [some (.ref v0), some (.ref v1), none, some (.int v3), some (.int v4), some (.int v5), some (.int v6), some (.int v7), some (.int v8), some (.int v9)] [] h (fun x : Int32 => some (.int x)) (k43 v0 v1 v3 v4 v5 v6 v7 v8 v9 h))  : ∀ (v0 : Nat) (v1 : Nat) (v3 : Int32) (v4 : Int32) (v5 : Int32) (v6 : Int32) (v7 : Int32) (v8 : Int32) (v9 : Int32) (h : gx_H), gx_G E RX2 cX2_bestLook 10 (some .int) false (d + 5) 0 0 43 [some (.ref v0), some (.ref v1), none, some (.int v3), some (.int v4), some (.int v5), some (.int v6), some (.int v7), some (.int v8), some (.int v9)] [] h (fun x : Int32 => some (.int x)) (bX2_bestLook_43 k19 k33 k43 v0 v1 v3 v4 v5 v6 v7 v8 v9 h) := by
  intro v0 v1 v3 v4 v5 v6 v7 v8 v9 h
  unfold bX2_bestLook_43
  refine gx_iload dX2_bestLook_43 rfl ?_
  refine gx_bipush (6 : Int32) dX2_bestLook_45 (by decide) ?_
  refine gx_icmp_ge 74 dX2_bestLook_47 (by decide) (fun _ => ?_) (fun _ => ?_)
  · refine gx_aload_n 0 dX2_bestLook_74 rfl rfl ?_
    refine gx_iload dX2_bestLook_75 rfl ?_
    refine gx_callV (ci := 2) (bc := 0) (bs := 0) (mc := 0) (ms := 0) (em' := (fun x : Int32 => some (.int x))) [.int v4] kc_RX2_62 rfl dX2_bestLook_77 rfl rfl (gx_w8 rfl) (fun x q => (gx_isO_of (by unfold fX2_mostAlike at q; exact q)).2) (fun _ _ q => okX2_mostAlike (d + 3) q) (fun x4 h3 => ?_)
    refine gx_istore [some (.ref v0), some (.ref v1), none, some (.int v3), some (.int v4), some (.int v5), some (.int v6), some (.int v7), some (.int v8), some (.int x4)] dX2_bestLook_80 (by decide) rfl ?_
    refine gx_iload dX2_bestLook_82 rfl ?_
    refine gx_iload dX2_bestLook_84 rfl ?_
    refine gx_icmp_ge 103 dX2_bestLook_86 (by decide) (fun _ => ?_) (fun _ => ?_)
    · exact gx_sub (gX2_bestLook_103 k19 hk19 k33 hk33 v0 v1 v3 v4 v5 v6 v7 v8 h3) (And.intro rfl (And.intro rfl (And.intro rfl (And.intro rfl (And.intro rfl (And.intro rfl (And.intro rfl (And.intro rfl True.intro))))))))
    · refine gx_iload dX2_bestLook_89 rfl ?_
      refine gx_istore [some (.ref v0), some (.ref v1), none, some (.int v3), some (.int v4), some (.int v5), some (.int x4), some (.int v7), some (.int v8), some (.int x4)] dX2_bestLook_91 (by decide) rfl ?_
      refine gx_bipush (10 : Int32) dX2_bestLook_93 (by decide) ?_
      refine gx_iload dX2_bestLook_95 rfl ?_
      refine gx_imul dX2_bestLook_97 ?_
      refine gx_iload dX2_bestLook_98 rfl ?_
      refine gx_iadd dX2_bestLook_100 ?_
      refine gx_istore [some (.ref v0), some (.ref v1), none, some (.int v3), some (.int v4), some (.int (((10 : Int32) * v7) + v8)), some (.int x4), some (.int v7), some (.int v8), some (.int x4)] dX2_bestLook_101 (by decide) rfl ?_
      exact gx_sub (gX2_bestLook_103 k19 hk19 k33 hk33 v0 v1 v3 v4 (((10 : Int32) * v7) + v8) x4 v7 v8 h3) (And.intro rfl (And.intro rfl (And.intro rfl (And.intro rfl (And.intro rfl (And.intro rfl (And.intro rfl (And.intro rfl True.intro))))))))
  · refine gx_aload_n 0 dX2_bestLook_50 rfl rfl ?_
    refine gx_getR kf_RX2_9 dX2_bestLook_51 (fun a5 => ?_)
    refine gx_iload dX2_bestLook_54 rfl ?_
    refine gx_aload_n 1 dX2_bestLook_56 rfl rfl ?_
    refine gx_iload_n 3 dX2_bestLook_57 rfl rfl ?_
    refine gx_iload dX2_bestLook_58 rfl ?_
    refine gx_iload dX2_bestLook_60 rfl ?_
    refine gx_iload dX2_bestLook_62 rfl ?_
    refine gx_callS (bc := 0) (bs := 0) (mc := 0) (ms := 0) (em' := (fun x : Int32 => some (.int x))) [.ref v1, .int v3, .int v9, .int v7, .int v8] kc_RX2_37 dX2_bestLook_64 rfl rfl (gx_w8 rfl) (fun _ _ q => okX2_lead (d + 2) q) (fun x7 h6 => ?_)
    refine gx_iast dX2_bestLook_67 (fun h8 => ?_)
    refine gx_iinc (1 : Int32) [some (.ref v0), some (.ref v1), none, some (.int v3), some (.int v4), some (.int v5), some (.int v6), some (.int v7), some (.int v8), some (.int (v9 + (1 : Int32)))] dX2_bestLook_68 rfl (by decide) (by decide) rfl ?_
    refine gx_goto 43 dX2_bestLook_71 (by decide) ?_
    exact gx_sub (hk43 v0 v1 v3 v4 v5 v6 v7 v8 (v9 + (1 : Int32)) h8) (And.intro rfl (And.intro rfl (And.intro rfl (And.intro rfl (And.intro rfl (And.intro rfl (And.intro rfl (And.intro rfl (And.intro rfl True.intro)))))))))
set_option maxRecDepth 100000 in
set_option maxHeartbeats 4000000 in
theorem gX2_bestLook_43 {E : gx_Env} {d : Nat} (k19 : Nat → Nat → Int32 → Int32 → Int32 → Int32 → Int32 → gx_H → Option (Int32 × gx_H)) (hk19 : ∀ (v0 : Nat) (v1 : Nat) (v3 : Int32) (v4 : Int32) (v5 : Int32) (v6 : Int32) (v7 : Int32) (h : gx_H), gx_G E RX2 cX2_bestLook 10 (some .int) false (d + 5) 0 0 19 [some (.ref v0), some (.ref v1), none, some (.int v3), some (.int v4), some (.int v5), some (.int v6), some (.int v7), none, none] [] h (fun x : Int32 => some (.int x)) (k19 v0 v1 v3 v4 v5 v6 v7 h))  (k33 : Nat → Nat → Int32 → Int32 → Int32 → Int32 → Int32 → Int32 → gx_H → Option (Int32 × gx_H)) (hk33 : ∀ (v0 : Nat) (v1 : Nat) (v3 : Int32) (v4 : Int32) (v5 : Int32) (v6 : Int32) (v7 : Int32) (v8 : Int32) (h : gx_H), gx_G E RX2 cX2_bestLook 10 (some .int) false (d + 5) 0 0 33 [some (.ref v0), some (.ref v1), none, some (.int v3), some (.int v4), some (.int v5), some (.int v6), some (.int v7), some (.int v8), none] [] h (fun x : Int32 => some (.int x)) (k33 v0 v1 v3 v4 v5 v6 v7 v8 h))  : ∀ (n : Nat) (v0 : Nat) (v1 : Nat) (v3 : Int32) (v4 : Int32) (v5 : Int32) (v6 : Int32) (v7 : Int32) (v8 : Int32) (v9 : Int32) (h : gx_H), gx_G E RX2 cX2_bestLook 10 (some .int) false (d + 5) 0 0 43 [some (.ref v0), some (.ref v1), none, some (.int v3), some (.int v4), some (.int v5), some (.int v6), some (.int v7), some (.int v8), some (.int v9)] [] h (fun x : Int32 => some (.int x)) (fX2_bestLook_43 k19 k33 n v0 v1 v3 v4 v5 v6 v7 v8 v9 h) := by
  intro n
  induction n with
  | zero => intro v0 v1 v3 v4 v5 v6 v7 v8 v9 h; exact gx_none
  | succ n ih => exact gbX2_bestLook_43 k19 hk19 k33 hk33 (fX2_bestLook_43 k19 k33 n) ih
set_option maxRecDepth 100000 in
set_option maxHeartbeats 4000000 in
theorem gbX2_bestLook_33 {E : gx_Env} {d : Nat} (k19 : Nat → Nat → Int32 → Int32 → Int32 → Int32 → Int32 → gx_H → Option (Int32 × gx_H)) (hk19 : ∀ (v0 : Nat) (v1 : Nat) (v3 : Int32) (v4 : Int32) (v5 : Int32) (v6 : Int32) (v7 : Int32) (h : gx_H), gx_G E RX2 cX2_bestLook 10 (some .int) false (d + 5) 0 0 19 [some (.ref v0), some (.ref v1), none, some (.int v3), some (.int v4), some (.int v5), some (.int v6), some (.int v7), none, none] [] h (fun x : Int32 => some (.int x)) (k19 v0 v1 v3 v4 v5 v6 v7 h))  (k33 : Nat → Nat → Int32 → Int32 → Int32 → Int32 → Int32 → Int32 → gx_H → Option (Int32 × gx_H)) (hk33 : ∀ (v0 : Nat) (v1 : Nat) (v3 : Int32) (v4 : Int32) (v5 : Int32) (v6 : Int32) (v7 : Int32) (v8 : Int32) (h : gx_H), gx_G E RX2 cX2_bestLook 10 (some .int) false (d + 5) 0 0 33 [some (.ref v0), some (.ref v1), none, some (.int v3), some (.int v4), some (.int v5), some (.int v6), some (.int v7), some (.int v8), none] [] h (fun x : Int32 => some (.int x)) (k33 v0 v1 v3 v4 v5 v6 v7 v8 h))  : ∀ (v0 : Nat) (v1 : Nat) (v3 : Int32) (v4 : Int32) (v5 : Int32) (v6 : Int32) (v7 : Int32) (v8 : Int32) (h : gx_H), gx_G E RX2 cX2_bestLook 10 (some .int) false (d + 5) 0 0 33 [some (.ref v0), some (.ref v1), none, some (.int v3), some (.int v4), some (.int v5), some (.int v6), some (.int v7), some (.int v8), none] [] h (fun x : Int32 => some (.int x)) (bX2_bestLook_33 k19 k33 v0 v1 v3 v4 v5 v6 v7 v8 h) := by
  intro v0 v1 v3 v4 v5 v6 v7 v8 h
  unfold bX2_bestLook_33
  refine gx_iload dX2_bestLook_33 rfl ?_
  refine gx_bipush (6 : Int32) dX2_bestLook_35 (by decide) ?_
  refine gx_icmp_gt 109 dX2_bestLook_37 (by decide) (fun _ => ?_) (fun _ => ?_)
  · refine gx_iinc (1 : Int32) [some (.ref v0), some (.ref v1), none, some (.int v3), some (.int v4), some (.int v5), some (.int v6), some (.int (v7 + (1 : Int32))), some (.int v8), none] dX2_bestLook_109 rfl (by decide) (by decide) rfl ?_
    refine gx_goto 19 dX2_bestLook_112 (by decide) ?_
    exact gx_sub (hk19 v0 v1 v3 v4 v5 v6 (v7 + (1 : Int32)) h) (And.intro rfl (And.intro rfl (And.intro rfl (And.intro rfl (And.intro rfl (And.intro rfl (And.intro rfl True.intro)))))))
  · refine gx_iconst (0 : Int32) dX2_bestLook_40 (by decide) ?_
    refine gx_istore [some (.ref v0), some (.ref v1), none, some (.int v3), some (.int v4), some (.int v5), some (.int v6), some (.int v7), some (.int v8), some (.int (0 : Int32))] dX2_bestLook_41 (by decide) rfl ?_
    exact gx_sub (gX2_bestLook_43 k19 hk19 k33 hk33 gx_N v0 v1 v3 v4 v5 v6 v7 v8 (0 : Int32) h) (And.intro rfl (And.intro rfl (And.intro rfl (And.intro rfl (And.intro rfl (And.intro rfl (And.intro rfl (And.intro rfl (And.intro rfl True.intro)))))))))
set_option maxRecDepth 100000 in
set_option maxHeartbeats 4000000 in
theorem gX2_bestLook_33 {E : gx_Env} {d : Nat} (k19 : Nat → Nat → Int32 → Int32 → Int32 → Int32 → Int32 → gx_H → Option (Int32 × gx_H)) (hk19 : ∀ (v0 : Nat) (v1 : Nat) (v3 : Int32) (v4 : Int32) (v5 : Int32) (v6 : Int32) (v7 : Int32) (h : gx_H), gx_G E RX2 cX2_bestLook 10 (some .int) false (d + 5) 0 0 19 [some (.ref v0), some (.ref v1), none, some (.int v3), some (.int v4), some (.int v5), some (.int v6), some (.int v7), none, none] [] h (fun x : Int32 => some (.int x)) (k19 v0 v1 v3 v4 v5 v6 v7 h))  : ∀ (n : Nat) (v0 : Nat) (v1 : Nat) (v3 : Int32) (v4 : Int32) (v5 : Int32) (v6 : Int32) (v7 : Int32) (v8 : Int32) (h : gx_H), gx_G E RX2 cX2_bestLook 10 (some .int) false (d + 5) 0 0 33 [some (.ref v0), some (.ref v1), none, some (.int v3), some (.int v4), some (.int v5), some (.int v6), some (.int v7), some (.int v8), none] [] h (fun x : Int32 => some (.int x)) (fX2_bestLook_33 k19 n v0 v1 v3 v4 v5 v6 v7 v8 h) := by
  intro n
  induction n with
  | zero => intro v0 v1 v3 v4 v5 v6 v7 v8 h; exact gx_none
  | succ n ih => exact gbX2_bestLook_33 k19 hk19 (fX2_bestLook_33 k19 n) ih
set_option maxRecDepth 100000 in
set_option maxHeartbeats 4000000 in
theorem gX2_bestLook_115 {E : gx_Env} {d : Nat}  : ∀ (v5 : Int32) (h : gx_H), gx_G E RX2 cX2_bestLook 10 (some .int) false (d + 5) 0 0 115 [none, none, none, none, none, some (.int v5), none, none, none, none] [] h (fun x : Int32 => some (.int x)) (fX2_bestLook_115 v5 h) := by
  intro v5 h
  unfold fX2_bestLook_115
  refine gx_iload dX2_bestLook_115 rfl ?_
  exact gx_iret dX2_bestLook_117 rfl
set_option maxRecDepth 100000 in
set_option maxHeartbeats 4000000 in
theorem gbX2_bestLook_19 {E : gx_Env} {d : Nat}  (k19 : Nat → Nat → Int32 → Int32 → Int32 → Int32 → Int32 → gx_H → Option (Int32 × gx_H)) (hk19 : ∀ (v0 : Nat) (v1 : Nat) (v3 : Int32) (v4 : Int32) (v5 : Int32) (v6 : Int32) (v7 : Int32) (h : gx_H), gx_G E RX2 cX2_bestLook 10 (some .int) false (d + 5) 0 0 19 [some (.ref v0), some (.ref v1), none, some (.int v3), some (.int v4), some (.int v5), some (.int v6), some (.int v7), none, none] [] h (fun x : Int32 => some (.int x)) (k19 v0 v1 v3 v4 v5 v6 v7 h))  : ∀ (v0 : Nat) (v1 : Nat) (v3 : Int32) (v4 : Int32) (v5 : Int32) (v6 : Int32) (v7 : Int32) (h : gx_H), gx_G E RX2 cX2_bestLook 10 (some .int) false (d + 5) 0 0 19 [some (.ref v0), some (.ref v1), none, some (.int v3), some (.int v4), some (.int v5), some (.int v6), some (.int v7), none, none] [] h (fun x : Int32 => some (.int x)) (bX2_bestLook_19 k19 v0 v1 v3 v4 v5 v6 v7 h) := by
  intro v0 v1 v3 v4 v5 v6 v7 h
  unfold bX2_bestLook_19
  refine gx_iload dX2_bestLook_19 rfl ?_
  refine gx_iconst (3 : Int32) dX2_bestLook_21 (by decide) ?_
  refine gx_icmp_gt 115 dX2_bestLook_22 (by decide) (fun _ => ?_) (fun _ => ?_)
  · exact gx_sub (gX2_bestLook_115 v5 h) (And.intro rfl True.intro)
  · refine gx_iload dX2_bestLook_25 rfl ?_
    refine gx_if_eq 115 dX2_bestLook_27 (by decide) (fun _ => ?_) (fun _ => ?_)
    · exact gx_sub (gX2_bestLook_115 v5 h) (And.intro rfl True.intro)
    · refine gx_iconst (1 : Int32) dX2_bestLook_30 (by decide) ?_
      refine gx_istore [some (.ref v0), some (.ref v1), none, some (.int v3), some (.int v4), some (.int v5), some (.int v6), some (.int v7), some (.int (1 : Int32)), none] dX2_bestLook_31 (by decide) rfl ?_
      exact gx_sub (gX2_bestLook_33 k19 hk19 gx_N v0 v1 v3 v4 v5 v6 v7 (1 : Int32) h) (And.intro rfl (And.intro rfl (And.intro rfl (And.intro rfl (And.intro rfl (And.intro rfl (And.intro rfl (And.intro rfl True.intro))))))))
set_option maxRecDepth 100000 in
set_option maxHeartbeats 4000000 in
theorem gX2_bestLook_19 {E : gx_Env} {d : Nat}  : ∀ (n : Nat) (v0 : Nat) (v1 : Nat) (v3 : Int32) (v4 : Int32) (v5 : Int32) (v6 : Int32) (v7 : Int32) (h : gx_H), gx_G E RX2 cX2_bestLook 10 (some .int) false (d + 5) 0 0 19 [some (.ref v0), some (.ref v1), none, some (.int v3), some (.int v4), some (.int v5), some (.int v6), some (.int v7), none, none] [] h (fun x : Int32 => some (.int x)) (fX2_bestLook_19 n v0 v1 v3 v4 v5 v6 v7 h) := by
  intro n
  induction n with
  | zero => intro v0 v1 v3 v4 v5 v6 v7 h; exact gx_none
  | succ n ih => exact gbX2_bestLook_19  (fX2_bestLook_19  n) ih
set_option maxRecDepth 100000 in
set_option maxHeartbeats 4000000 in
theorem geX2_bestLook {E : gx_Env} {d : Nat} (v0 : Nat) (v1 : Nat) (v2 : Nat) (v3 : Int32) (h : gx_H) : gx_G E RX2 cX2_bestLook 10 (some .int) false (d + 5) 0 0 0 [some (.ref v0), some (.ref v1), some (.ref v2), some (.int v3), none, none, none, none, none, none] [] h (fun x : Int32 => some (.int x)) (fX2_bestLook v0 v1 v2 v3 h) := by
  unfold fX2_bestLook
  refine gx_bind fun _ _ => ?_
  refine gx_aload_n 0 dX2_bestLook_0 rfl rfl ?_
  refine gx_aload_n 1 dX2_bestLook_1 rfl rfl ?_
  refine gx_aload_n 2 dX2_bestLook_2 rfl rfl ?_
  refine gx_iload_n 3 dX2_bestLook_3 rfl rfl ?_
  refine gx_callV (ci := 2) (bc := 0) (bs := 0) (mc := 0) (ms := 0) (em' := (fun x : Int32 => some (.int x))) [.ref v1, .ref v2, .int v3] kc_RX2_58 rfl dX2_bestLook_4 rfl rfl (gx_w8 rfl) (fun x q => (gx_isO_of (by unfold fX2_linkKinds at q; exact q)).2) (fun _ _ q => okX2_linkKinds d q) (fun x2 h1 => ?_)
  refine gx_istore [some (.ref v0), some (.ref v1), some (.ref v2), some (.int v3), some (.int x2), none, none, none, none, none] dX2_bestLook_7 (by decide) rfl ?_
  refine gx_iconst (-1 : Int32) dX2_bestLook_9 (by decide) ?_
  refine gx_istore [some (.ref v0), some (.ref v1), some (.ref v2), some (.int v3), some (.int x2), some (.int (-1 : Int32)), none, none, none, none] dX2_bestLook_10 (by decide) rfl ?_
  refine gx_bipush (7 : Int32) dX2_bestLook_12 (by decide) ?_
  refine gx_istore [some (.ref v0), some (.ref v1), some (.ref v2), some (.int v3), some (.int x2), some (.int (-1 : Int32)), some (.int (7 : Int32)), none, none, none] dX2_bestLook_14 (by decide) rfl ?_
  refine gx_iconst (0 : Int32) dX2_bestLook_16 (by decide) ?_
  refine gx_istore [some (.ref v0), some (.ref v1), some (.ref v2), some (.int v3), some (.int x2), some (.int (-1 : Int32)), some (.int (7 : Int32)), some (.int (0 : Int32)), none, none] dX2_bestLook_17 (by decide) rfl ?_
  exact gx_sub (gX2_bestLook_19 gx_N v0 v1 v3 x2 (-1 : Int32) (7 : Int32) (0 : Int32) h1) (And.intro rfl (And.intro rfl (And.intro rfl (And.intro rfl (And.intro rfl (And.intro rfl (And.intro rfl True.intro)))))))
theorem okX2_bestLook {E : gx_Env} (d : Nat) {v0 : Nat} {v1 : Nat} {v2 : Nat} {v3 : Int32} {h : gx_H} {r : Int32} {h1 : gx_H} (q : fX2_bestLook v0 v1 v2 v3 h = some (r, h1)) : gx_M E yX2_bestLook cX2_bestLook 10 (some .int) (d + 5) 0 0 [.ref v0, .ref v1, .ref v2, .int v3] h ((fun x : Int32 => some (.int x)) r) h1 := gx_meth (y := yX2_bestLook) (cc := cX2_bestLook) (nL := 10) (em := (fun x : Int32 => some (.int x))) (ini := false) [.ref v0, .ref v1, .ref v2, .int v3] (by decide) (by simp [gx_sl]) (fun q => by cases q) (geX2_bestLook v0 v1 v2 v3 h) q
theorem dX2_fitsMarks_0 : decode cX2_fitsMarks 0 = .ok (.iconst 0, 1) := by decide +kernel
theorem dX2_fitsMarks_1 : decode cX2_fitsMarks 1 = .ok (.istore 4, 2) := by decide +kernel
theorem dX2_fitsMarks_3 : decode cX2_fitsMarks 3 = .ok (.iload 4, 2) := by decide +kernel
theorem dX2_fitsMarks_5 : decode cX2_fitsMarks 5 = .ok (.aload_n 1, 1) := by decide +kernel
theorem dX2_fitsMarks_6 : decode cX2_fitsMarks 6 = .ok (.getfield 19, 3) := by decide +kernel
theorem dX2_fitsMarks_9 : decode cX2_fitsMarks 9 = .ok (.if_icmp .ge 58, 3) := by decide +kernel
theorem dX2_fitsMarks_12 : decode cX2_fitsMarks 12 = .ok (.iload_n 3, 1) := by decide +kernel
theorem dX2_fitsMarks_13 : decode cX2_fitsMarks 13 = .ok (.aload_n 1, 1) := by decide +kernel
theorem dX2_fitsMarks_14 : decode cX2_fitsMarks 14 = .ok (.getfield 31, 3) := by decide +kernel
theorem dX2_fitsMarks_17 : decode cX2_fitsMarks 17 = .ok (.iload 4, 2) := by decide +kernel
theorem dX2_fitsMarks_19 : decode cX2_fitsMarks 19 = .ok (.iaload, 1) := by decide +kernel
theorem dX2_fitsMarks_20 : decode cX2_fitsMarks 20 = .ok (.aload_n 1, 1) := by decide +kernel
theorem dX2_fitsMarks_21 : decode cX2_fitsMarks 21 = .ok (.getfield 34, 3) := by decide +kernel
theorem dX2_fitsMarks_24 : decode cX2_fitsMarks 24 = .ok (.iload 4, 2) := by decide +kernel
theorem dX2_fitsMarks_26 : decode cX2_fitsMarks 26 = .ok (.iaload, 1) := by decide +kernel
theorem dX2_fitsMarks_27 : decode cX2_fitsMarks 27 = .ok (.aload_n 0, 1) := by decide +kernel
theorem dX2_fitsMarks_28 : decode cX2_fitsMarks 28 = .ok (.getfield 49, 3) := by decide +kernel
theorem dX2_fitsMarks_31 : decode cX2_fitsMarks 31 = .ok (.invokestatic 69, 3) := by decide +kernel
theorem dX2_fitsMarks_34 : decode cX2_fitsMarks 34 = .ok (.istore 5, 2) := by decide +kernel
theorem dX2_fitsMarks_36 : decode cX2_fitsMarks 36 = .ok (.aload_n 1, 1) := by decide +kernel
theorem dX2_fitsMarks_37 : decode cX2_fitsMarks 37 = .ok (.getfield 25, 3) := by decide +kernel
theorem dX2_fitsMarks_40 : decode cX2_fitsMarks 40 = .ok (.iload 4, 2) := by decide +kernel
theorem dX2_fitsMarks_42 : decode cX2_fitsMarks 42 = .ok (.iaload, 1) := by decide +kernel
theorem dX2_fitsMarks_43 : decode cX2_fitsMarks 43 = .ok (.iload_n 2, 1) := by decide +kernel
theorem dX2_fitsMarks_44 : decode cX2_fitsMarks 44 = .ok (.if_icmp .ne 17, 3) := by decide +kernel
theorem dX2_fitsMarks_47 : decode cX2_fitsMarks 47 = .ok (.aload_n 1, 1) := by decide +kernel
theorem dX2_fitsMarks_48 : decode cX2_fitsMarks 48 = .ok (.getfield 28, 3) := by decide +kernel
theorem dX2_fitsMarks_51 : decode cX2_fitsMarks 51 = .ok (.iload 4, 2) := by decide +kernel
theorem dX2_fitsMarks_53 : decode cX2_fitsMarks 53 = .ok (.iaload, 1) := by decide +kernel
theorem dX2_fitsMarks_54 : decode cX2_fitsMarks 54 = .ok (.iload 5, 2) := by decide +kernel
theorem dX2_fitsMarks_56 : decode cX2_fitsMarks 56 = .ok (.if_icmp .eq 5, 3) := by decide +kernel
theorem dX2_fitsMarks_59 : decode cX2_fitsMarks 59 = .ok (.iconst 0, 1) := by decide +kernel
theorem dX2_fitsMarks_60 : decode cX2_fitsMarks 60 = .ok (.ireturn, 1) := by decide +kernel
theorem dX2_fitsMarks_61 : decode cX2_fitsMarks 61 = .ok (.iinc 4 1, 3) := by decide +kernel
theorem dX2_fitsMarks_64 : decode cX2_fitsMarks 64 = .ok (.goto (-61), 3) := by decide +kernel
theorem dX2_fitsMarks_67 : decode cX2_fitsMarks 67 = .ok (.iconst 1, 1) := by decide +kernel
theorem dX2_fitsMarks_68 : decode cX2_fitsMarks 68 = .ok (.ireturn, 1) := by decide +kernel
def fX2_fitsMarks_61 (k3 : Nat → Nat → Int32 → Int32 → Int32 → gx_H → Option (Int32 × gx_H)) (v0 : Nat) (v1 : Nat) (v2 : Int32) (v3 : Int32) (v4 : Int32) (h : gx_H) : Option (Int32 × gx_H) :=
  k3 v0 v1 v2 v3 (v4 + (1 : Int32)) h
def bX2_fitsMarks_3 (k3 : Nat → Nat → Int32 → Int32 → Int32 → gx_H → Option (Int32 × gx_H)) (v0 : Nat) (v1 : Nat) (v2 : Int32) (v3 : Int32) (v4 : Int32) (h : gx_H) : Option (Int32 × gx_H) :=
  (gx_fI h v1 5 0).bind fun x1 =>
  if x1 ≤ v4 then
    gx_ret .boolean (1 : Int32) h
  else
    (gx_fR h v1 5 2).bind fun a2 =>
    (gx_aI 0 h a2 v4).bind fun x3 =>
    (gx_fR h v1 5 3).bind fun a4 =>
    (gx_aI 0 h a4 v4).bind fun x5 =>
    (gx_fI h v0 0 0).bind fun x6 =>
    gx_bd (fX6_square v3 x3 x5 x6 h) fun x8 h7 =>
    (gx_fR h7 v1 5 1).bind fun a9 =>
    (gx_aI 0 h7 a9 v4).bind fun x10 =>
    if x10 = v2 then
      (gx_fR h7 v1 5 4).bind fun a11 =>
      (gx_aI 0 h7 a11 v4).bind fun x12 =>
      if x12 = x8 then
        fX2_fitsMarks_61 k3 v0 v1 v2 v3 v4 h7
      else
        gx_ret .boolean (0 : Int32) h7
    else
      fX2_fitsMarks_61 k3 v0 v1 v2 v3 v4 h7
def fX2_fitsMarks_3 : Nat → Nat → Nat → Int32 → Int32 → Int32 → gx_H → Option (Int32 × gx_H)
  | 0 => fun _ _ _ _ _ _ => none
  | n + 1 => bX2_fitsMarks_3 (fX2_fitsMarks_3 n)
def fX2_fitsMarks (v0 : Nat) (v1 : Nat) (v2 : Int32) (v3 : Int32) (h : gx_H) : Option (Int32 × gx_H) :=
  fX2_fitsMarks_3 gx_N v0 v1 v2 v3 (0 : Int32) h
set_option maxRecDepth 100000 in
set_option maxHeartbeats 4000000 in
theorem gX2_fitsMarks_61 {E : gx_Env} {d : Nat} (k3 : Nat → Nat → Int32 → Int32 → Int32 → gx_H → Option (Int32 × gx_H)) (hk3 : ∀ (v0 : Nat) (v1 : Nat) (v2 : Int32) (v3 : Int32) (v4 : Int32) (h : gx_H), gx_G E RX2 cX2_fitsMarks 6 (some .boolean) false (d + 2) 0 0 3 [some (.ref v0), some (.ref v1), some (.int v2), some (.int v3), some (.int v4), none] [] h (fun x : Int32 => some (.int x)) (k3 v0 v1 v2 v3 v4 h))  : ∀ (v0 : Nat) (v1 : Nat) (v2 : Int32) (v3 : Int32) (v4 : Int32) (h : gx_H), gx_G E RX2 cX2_fitsMarks 6 (some .boolean) false (d + 2) 0 0 61 [some (.ref v0), some (.ref v1), some (.int v2), some (.int v3), some (.int v4), none] [] h (fun x : Int32 => some (.int x)) (fX2_fitsMarks_61 k3 v0 v1 v2 v3 v4 h) := by
  intro v0 v1 v2 v3 v4 h
  unfold fX2_fitsMarks_61
  refine gx_iinc (1 : Int32) [some (.ref v0), some (.ref v1), some (.int v2), some (.int v3), some (.int (v4 + (1 : Int32))), none] dX2_fitsMarks_61 rfl (by decide) (by decide) rfl ?_
  refine gx_goto 3 dX2_fitsMarks_64 (by decide) ?_
  exact gx_sub (hk3 v0 v1 v2 v3 (v4 + (1 : Int32)) h) (And.intro rfl (And.intro rfl (And.intro rfl (And.intro rfl (And.intro rfl True.intro)))))
set_option maxRecDepth 100000 in
set_option maxHeartbeats 4000000 in
theorem gbX2_fitsMarks_3 {E : gx_Env} {d : Nat}  (k3 : Nat → Nat → Int32 → Int32 → Int32 → gx_H → Option (Int32 × gx_H)) (hk3 : ∀ (v0 : Nat) (v1 : Nat) (v2 : Int32) (v3 : Int32) (v4 : Int32) (h : gx_H), gx_G E RX2 cX2_fitsMarks 6 (some .boolean) false (d + 2) 0 0 3 [some (.ref v0), some (.ref v1), some (.int v2), some (.int v3), some (.int v4), none] [] h (fun x : Int32 => some (.int x)) (k3 v0 v1 v2 v3 v4 h))  : ∀ (v0 : Nat) (v1 : Nat) (v2 : Int32) (v3 : Int32) (v4 : Int32) (h : gx_H), gx_G E RX2 cX2_fitsMarks 6 (some .boolean) false (d + 2) 0 0 3 [some (.ref v0), some (.ref v1), some (.int v2), some (.int v3), some (.int v4), none] [] h (fun x : Int32 => some (.int x)) (bX2_fitsMarks_3 k3 v0 v1 v2 v3 v4 h) := by
  intro v0 v1 v2 v3 v4 h
  unfold bX2_fitsMarks_3
  refine gx_iload dX2_fitsMarks_3 rfl ?_
  refine gx_aload_n 1 dX2_fitsMarks_5 rfl rfl ?_
  refine gx_getI kf_RX2_19 dX2_fitsMarks_6 (fun x1 => ?_)
  refine gx_icmp_ge 67 dX2_fitsMarks_9 (by decide) (fun _ => ?_) (fun _ => ?_)
  · refine gx_iconst (1 : Int32) dX2_fitsMarks_67 (by decide) ?_
    exact gx_zret dX2_fitsMarks_68 rfl
  · refine gx_iload_n 3 dX2_fitsMarks_12 rfl rfl ?_
    refine gx_aload_n 1 dX2_fitsMarks_13 rfl rfl ?_
    refine gx_getR kf_RX2_31 dX2_fitsMarks_14 (fun a2 => ?_)
    refine gx_iload dX2_fitsMarks_17 rfl ?_
    refine gx_iald dX2_fitsMarks_19 (fun x3 => ?_)
    refine gx_aload_n 1 dX2_fitsMarks_20 rfl rfl ?_
    refine gx_getR kf_RX2_34 dX2_fitsMarks_21 (fun a4 => ?_)
    refine gx_iload dX2_fitsMarks_24 rfl ?_
    refine gx_iald dX2_fitsMarks_26 (fun x5 => ?_)
    refine gx_aload_n 0 dX2_fitsMarks_27 rfl rfl ?_
    refine gx_getI kf_RX2_49 dX2_fitsMarks_28 (fun x6 => ?_)
    refine gx_callS (bc := 0) (bs := 0) (mc := 0) (ms := 0) (em' := (fun x : Int32 => some (.int x))) [.int v3, .int x3, .int x5, .int x6] kc_RX2_69 dX2_fitsMarks_31 rfl rfl (gx_w8 rfl) (fun _ _ q => okX6_square d q) (fun x8 h7 => ?_)
    refine gx_istore [some (.ref v0), some (.ref v1), some (.int v2), some (.int v3), some (.int v4), some (.int x8)] dX2_fitsMarks_34 (by decide) rfl ?_
    refine gx_aload_n 1 dX2_fitsMarks_36 rfl rfl ?_
    refine gx_getR kf_RX2_25 dX2_fitsMarks_37 (fun a9 => ?_)
    refine gx_iload dX2_fitsMarks_40 rfl ?_
    refine gx_iald dX2_fitsMarks_42 (fun x10 => ?_)
    refine gx_iload_n 2 dX2_fitsMarks_43 rfl rfl ?_
    refine gx_icmp_ne 61 dX2_fitsMarks_44 (by decide) (fun _ => ?_) (fun _ => ?_)
    · exact gx_sub (gX2_fitsMarks_61 k3 hk3 v0 v1 v2 v3 v4 h7) (And.intro rfl (And.intro rfl (And.intro rfl (And.intro rfl (And.intro rfl True.intro)))))
    · refine gx_aload_n 1 dX2_fitsMarks_47 rfl rfl ?_
      refine gx_getR kf_RX2_28 dX2_fitsMarks_48 (fun a11 => ?_)
      refine gx_iload dX2_fitsMarks_51 rfl ?_
      refine gx_iald dX2_fitsMarks_53 (fun x12 => ?_)
      refine gx_iload dX2_fitsMarks_54 rfl ?_
      refine gx_icmp_eq 61 dX2_fitsMarks_56 (by decide) (fun _ => ?_) (fun _ => ?_)
      · exact gx_sub (gX2_fitsMarks_61 k3 hk3 v0 v1 v2 v3 v4 h7) (And.intro rfl (And.intro rfl (And.intro rfl (And.intro rfl (And.intro rfl True.intro)))))
      · refine gx_iconst (0 : Int32) dX2_fitsMarks_59 (by decide) ?_
        exact gx_zret dX2_fitsMarks_60 rfl
set_option maxRecDepth 100000 in
set_option maxHeartbeats 4000000 in
theorem gX2_fitsMarks_3 {E : gx_Env} {d : Nat}  : ∀ (n : Nat) (v0 : Nat) (v1 : Nat) (v2 : Int32) (v3 : Int32) (v4 : Int32) (h : gx_H), gx_G E RX2 cX2_fitsMarks 6 (some .boolean) false (d + 2) 0 0 3 [some (.ref v0), some (.ref v1), some (.int v2), some (.int v3), some (.int v4), none] [] h (fun x : Int32 => some (.int x)) (fX2_fitsMarks_3 n v0 v1 v2 v3 v4 h) := by
  intro n
  induction n with
  | zero => intro v0 v1 v2 v3 v4 h; exact gx_none
  | succ n ih => exact gbX2_fitsMarks_3  (fX2_fitsMarks_3  n) ih
set_option maxRecDepth 100000 in
set_option maxHeartbeats 4000000 in
theorem geX2_fitsMarks {E : gx_Env} {d : Nat} (v0 : Nat) (v1 : Nat) (v2 : Int32) (v3 : Int32) (h : gx_H) : gx_G E RX2 cX2_fitsMarks 6 (some .boolean) false (d + 2) 0 0 0 [some (.ref v0), some (.ref v1), some (.int v2), some (.int v3), none, none] [] h (fun x : Int32 => some (.int x)) (fX2_fitsMarks v0 v1 v2 v3 h) := by
  unfold fX2_fitsMarks
  refine gx_iconst (0 : Int32) dX2_fitsMarks_0 (by decide) ?_
  refine gx_istore [some (.ref v0), some (.ref v1), some (.int v2), some (.int v3), some (.int (0 : Int32)), none] dX2_fitsMarks_1 (by decide) rfl ?_
  exact gx_sub (gX2_fitsMarks_3 gx_N v0 v1 v2 v3 (0 : Int32) h) (And.intro rfl (And.intro rfl (And.intro rfl (And.intro rfl (And.intro rfl True.intro)))))
theorem okX2_fitsMarks {E : gx_Env} (d : Nat) {v0 : Nat} {v1 : Nat} {v2 : Int32} {v3 : Int32} {h : gx_H} {r : Int32} {h1 : gx_H} (q : fX2_fitsMarks v0 v1 v2 v3 h = some (r, h1)) : gx_M E yX2_fitsMarks cX2_fitsMarks 6 (some .boolean) (d + 2) 0 0 [.ref v0, .ref v1, .int v2, .int v3] h ((fun x : Int32 => some (.int x)) r) h1 := gx_meth (y := yX2_fitsMarks) (cc := cX2_fitsMarks) (nL := 6) (em := (fun x : Int32 => some (.int x))) (ini := false) [.ref v0, .ref v1, .int v2, .int v3] (by decide) (by simp [gx_sl]) (fun q => by cases q) (geX2_fitsMarks v0 v1 v2 v3 h) q
theorem dX2_playerKinds_0 : decode cX2_playerKinds 0 = .ok (.iconst 0, 1) := by decide +kernel
theorem dX2_playerKinds_1 : decode cX2_playerKinds 1 = .ok (.istore 4, 2) := by decide +kernel
theorem dX2_playerKinds_3 : decode cX2_playerKinds 3 = .ok (.iconst 0, 1) := by decide +kernel
theorem dX2_playerKinds_4 : decode cX2_playerKinds 4 = .ok (.istore 5, 2) := by decide +kernel
theorem dX2_playerKinds_6 : decode cX2_playerKinds 6 = .ok (.iload 5, 2) := by decide +kernel
theorem dX2_playerKinds_8 : decode cX2_playerKinds 8 = .ok (.bipush 6, 2) := by decide +kernel
theorem dX2_playerKinds_10 : decode cX2_playerKinds 10 = .ok (.if_icmp .ge 29, 3) := by decide +kernel
theorem dX2_playerKinds_13 : decode cX2_playerKinds 13 = .ok (.aload_n 1, 1) := by decide +kernel
theorem dX2_playerKinds_14 : decode cX2_playerKinds 14 = .ok (.aload_n 2, 1) := by decide +kernel
theorem dX2_playerKinds_15 : decode cX2_playerKinds 15 = .ok (.iload_n 3, 1) := by decide +kernel
theorem dX2_playerKinds_16 : decode cX2_playerKinds 16 = .ok (.iload 5, 2) := by decide +kernel
theorem dX2_playerKinds_18 : decode cX2_playerKinds 18 = .ok (.invokestatic 66, 3) := by decide +kernel
theorem dX2_playerKinds_21 : decode cX2_playerKinds 21 = .ok (.ifCond .eq 12, 3) := by decide +kernel
theorem dX2_playerKinds_24 : decode cX2_playerKinds 24 = .ok (.iload 4, 2) := by decide +kernel
theorem dX2_playerKinds_26 : decode cX2_playerKinds 26 = .ok (.iconst 1, 1) := by decide +kernel
theorem dX2_playerKinds_27 : decode cX2_playerKinds 27 = .ok (.iload 5, 2) := by decide +kernel
theorem dX2_playerKinds_29 : decode cX2_playerKinds 29 = .ok (.ishl, 1) := by decide +kernel
theorem dX2_playerKinds_30 : decode cX2_playerKinds 30 = .ok (.ior, 1) := by decide +kernel
theorem dX2_playerKinds_31 : decode cX2_playerKinds 31 = .ok (.istore 4, 2) := by decide +kernel
theorem dX2_playerKinds_33 : decode cX2_playerKinds 33 = .ok (.iinc 5 1, 3) := by decide +kernel
theorem dX2_playerKinds_36 : decode cX2_playerKinds 36 = .ok (.goto (-30), 3) := by decide +kernel
theorem dX2_playerKinds_39 : decode cX2_playerKinds 39 = .ok (.iload 4, 2) := by decide +kernel
theorem dX2_playerKinds_41 : decode cX2_playerKinds 41 = .ok (.ireturn, 1) := by decide +kernel
def fX2_playerKinds_33 (k6 : Nat → Nat → Int32 → Int32 → Int32 → gx_H → Option (Int32 × gx_H)) (v1 : Nat) (v2 : Nat) (v3 : Int32) (v4 : Int32) (v5 : Int32) (h : gx_H) : Option (Int32 × gx_H) :=
  k6 v1 v2 v3 v4 (v5 + (1 : Int32)) h
def bX2_playerKinds_6 (k6 : Nat → Nat → Int32 → Int32 → Int32 → gx_H → Option (Int32 × gx_H)) (v1 : Nat) (v2 : Nat) (v3 : Int32) (v4 : Int32) (v5 : Int32) (h : gx_H) : Option (Int32 × gx_H) :=
  if (6 : Int32) ≤ v5 then
    some (v4, h)
  else
    gx_bd (fX2_fitsMarks v1 v2 v3 v5 h) fun x2 h1 =>
    if x2 = 0 then
      fX2_playerKinds_33 k6 v1 v2 v3 v4 v5 h1
    else
      fX2_playerKinds_33 k6 v1 v2 v3 (v4 ||| ((1 : Int32) <<< (v5 &&& 31))) v5 h1
def fX2_playerKinds_6 : Nat → Nat → Nat → Int32 → Int32 → Int32 → gx_H → Option (Int32 × gx_H)
  | 0 => fun _ _ _ _ _ _ => none
  | n + 1 => bX2_playerKinds_6 (fX2_playerKinds_6 n)
def fX2_playerKinds (v0 : Nat) (v1 : Nat) (v2 : Nat) (v3 : Int32) (h : gx_H) : Option (Int32 × gx_H) :=
  (gx_isO h v0 2).bind fun _ =>
  fX2_playerKinds_6 gx_N v1 v2 v3 (0 : Int32) (0 : Int32) h
set_option maxRecDepth 100000 in
set_option maxHeartbeats 4000000 in
theorem gX2_playerKinds_33 {E : gx_Env} {d : Nat} (k6 : Nat → Nat → Int32 → Int32 → Int32 → gx_H → Option (Int32 × gx_H)) (hk6 : ∀ (v1 : Nat) (v2 : Nat) (v3 : Int32) (v4 : Int32) (v5 : Int32) (h : gx_H), gx_G E RX2 cX2_playerKinds 6 (some .int) false (d + 3) 0 0 6 [none, some (.ref v1), some (.ref v2), some (.int v3), some (.int v4), some (.int v5)] [] h (fun x : Int32 => some (.int x)) (k6 v1 v2 v3 v4 v5 h))  : ∀ (v1 : Nat) (v2 : Nat) (v3 : Int32) (v4 : Int32) (v5 : Int32) (h : gx_H), gx_G E RX2 cX2_playerKinds 6 (some .int) false (d + 3) 0 0 33 [none, some (.ref v1), some (.ref v2), some (.int v3), some (.int v4), some (.int v5)] [] h (fun x : Int32 => some (.int x)) (fX2_playerKinds_33 k6 v1 v2 v3 v4 v5 h) := by
  intro v1 v2 v3 v4 v5 h
  unfold fX2_playerKinds_33
  refine gx_iinc (1 : Int32) [none, some (.ref v1), some (.ref v2), some (.int v3), some (.int v4), some (.int (v5 + (1 : Int32)))] dX2_playerKinds_33 rfl (by decide) (by decide) rfl ?_
  refine gx_goto 6 dX2_playerKinds_36 (by decide) ?_
  exact gx_sub (hk6 v1 v2 v3 v4 (v5 + (1 : Int32)) h) (And.intro rfl (And.intro rfl (And.intro rfl (And.intro rfl (And.intro rfl True.intro)))))
set_option maxRecDepth 100000 in
set_option maxHeartbeats 4000000 in
theorem gbX2_playerKinds_6 {E : gx_Env} {d : Nat}  (k6 : Nat → Nat → Int32 → Int32 → Int32 → gx_H → Option (Int32 × gx_H)) (hk6 : ∀ (v1 : Nat) (v2 : Nat) (v3 : Int32) (v4 : Int32) (v5 : Int32) (h : gx_H), gx_G E RX2 cX2_playerKinds 6 (some .int) false (d + 3) 0 0 6 [none, some (.ref v1), some (.ref v2), some (.int v3), some (.int v4), some (.int v5)] [] h (fun x : Int32 => some (.int x)) (k6 v1 v2 v3 v4 v5 h))  : ∀ (v1 : Nat) (v2 : Nat) (v3 : Int32) (v4 : Int32) (v5 : Int32) (h : gx_H), gx_G E RX2 cX2_playerKinds 6 (some .int) false (d + 3) 0 0 6 [none, some (.ref v1), some (.ref v2), some (.int v3), some (.int v4), some (.int v5)] [] h (fun x : Int32 => some (.int x)) (bX2_playerKinds_6 k6 v1 v2 v3 v4 v5 h) := by
  intro v1 v2 v3 v4 v5 h
  unfold bX2_playerKinds_6
  refine gx_iload dX2_playerKinds_6 rfl ?_
  refine gx_bipush (6 : Int32) dX2_playerKinds_8 (by decide) ?_
  refine gx_icmp_ge 39 dX2_playerKinds_10 (by decide) (fun _ => ?_) (fun _ => ?_)
  · refine gx_iload dX2_playerKinds_39 rfl ?_
    exact gx_iret dX2_playerKinds_41 rfl
  · refine gx_aload_n 1 dX2_playerKinds_13 rfl rfl ?_
    refine gx_aload_n 2 dX2_playerKinds_14 rfl rfl ?_
    refine gx_iload_n 3 dX2_playerKinds_15 rfl rfl ?_
    refine gx_iload dX2_playerKinds_16 rfl ?_
    refine gx_callS (bc := 0) (bs := 0) (mc := 0) (ms := 0) (em' := (fun x : Int32 => some (.int x))) [.ref v1, .ref v2, .int v3, .int v5] kc_RX2_66 dX2_playerKinds_18 rfl rfl (gx_w8 rfl) (fun _ _ q => okX2_fitsMarks d q) (fun x2 h1 => ?_)
    refine gx_if_eq 33 dX2_playerKinds_21 (by decide) (fun _ => ?_) (fun _ => ?_)
    · exact gx_sub (gX2_playerKinds_33 k6 hk6 v1 v2 v3 v4 v5 h1) (And.intro rfl (And.intro rfl (And.intro rfl (And.intro rfl (And.intro rfl True.intro)))))
    · refine gx_iload dX2_playerKinds_24 rfl ?_
      refine gx_iconst (1 : Int32) dX2_playerKinds_26 (by decide) ?_
      refine gx_iload dX2_playerKinds_27 rfl ?_
      refine gx_ishl dX2_playerKinds_29 ?_
      refine gx_ior dX2_playerKinds_30 ?_
      refine gx_istore [none, some (.ref v1), some (.ref v2), some (.int v3), some (.int (v4 ||| ((1 : Int32) <<< (v5 &&& 31)))), some (.int v5)] dX2_playerKinds_31 (by decide) rfl ?_
      exact gx_sub (gX2_playerKinds_33 k6 hk6 v1 v2 v3 (v4 ||| ((1 : Int32) <<< (v5 &&& 31))) v5 h1) (And.intro rfl (And.intro rfl (And.intro rfl (And.intro rfl (And.intro rfl True.intro)))))
set_option maxRecDepth 100000 in
set_option maxHeartbeats 4000000 in
theorem gX2_playerKinds_6 {E : gx_Env} {d : Nat}  : ∀ (n : Nat) (v1 : Nat) (v2 : Nat) (v3 : Int32) (v4 : Int32) (v5 : Int32) (h : gx_H), gx_G E RX2 cX2_playerKinds 6 (some .int) false (d + 3) 0 0 6 [none, some (.ref v1), some (.ref v2), some (.int v3), some (.int v4), some (.int v5)] [] h (fun x : Int32 => some (.int x)) (fX2_playerKinds_6 n v1 v2 v3 v4 v5 h) := by
  intro n
  induction n with
  | zero => intro v1 v2 v3 v4 v5 h; exact gx_none
  | succ n ih => exact gbX2_playerKinds_6  (fX2_playerKinds_6  n) ih
set_option maxRecDepth 100000 in
set_option maxHeartbeats 4000000 in
theorem geX2_playerKinds {E : gx_Env} {d : Nat} (v0 : Nat) (v1 : Nat) (v2 : Nat) (v3 : Int32) (h : gx_H) : gx_G E RX2 cX2_playerKinds 6 (some .int) false (d + 3) 0 0 0 [some (.ref v0), some (.ref v1), some (.ref v2), some (.int v3), none, none] [] h (fun x : Int32 => some (.int x)) (fX2_playerKinds v0 v1 v2 v3 h) := by
  unfold fX2_playerKinds
  refine gx_bind fun _ _ => ?_
  refine gx_iconst (0 : Int32) dX2_playerKinds_0 (by decide) ?_
  refine gx_istore [some (.ref v0), some (.ref v1), some (.ref v2), some (.int v3), some (.int (0 : Int32)), none] dX2_playerKinds_1 (by decide) rfl ?_
  refine gx_iconst (0 : Int32) dX2_playerKinds_3 (by decide) ?_
  refine gx_istore [some (.ref v0), some (.ref v1), some (.ref v2), some (.int v3), some (.int (0 : Int32)), some (.int (0 : Int32))] dX2_playerKinds_4 (by decide) rfl ?_
  exact gx_sub (gX2_playerKinds_6 gx_N v1 v2 v3 (0 : Int32) (0 : Int32) h) (And.intro rfl (And.intro rfl (And.intro rfl (And.intro rfl (And.intro rfl True.intro)))))
theorem okX2_playerKinds {E : gx_Env} (d : Nat) {v0 : Nat} {v1 : Nat} {v2 : Nat} {v3 : Int32} {h : gx_H} {r : Int32} {h1 : gx_H} (q : fX2_playerKinds v0 v1 v2 v3 h = some (r, h1)) : gx_M E yX2_playerKinds cX2_playerKinds 6 (some .int) (d + 3) 0 0 [.ref v0, .ref v1, .ref v2, .int v3] h ((fun x : Int32 => some (.int x)) r) h1 := gx_meth (y := yX2_playerKinds) (cc := cX2_playerKinds) (nL := 6) (em := (fun x : Int32 => some (.int x))) (ini := false) [.ref v0, .ref v1, .ref v2, .int v3] (by decide) (by simp [gx_sl]) (fun q => by cases q) (geX2_playerKinds v0 v1 v2 v3 h) q
theorem dX2_bestAsk_0 : decode cX2_bestAsk 0 = .ok (.aload_n 0, 1) := by decide +kernel
theorem dX2_bestAsk_1 : decode cX2_bestAsk 1 = .ok (.aload_n 1, 1) := by decide +kernel
theorem dX2_bestAsk_2 : decode cX2_bestAsk 2 = .ok (.aload_n 2, 1) := by decide +kernel
theorem dX2_bestAsk_3 : decode cX2_bestAsk 3 = .ok (.iload_n 3, 1) := by decide +kernel
theorem dX2_bestAsk_4 : decode cX2_bestAsk 4 = .ok (.invokevirtual 74, 3) := by decide +kernel
theorem dX2_bestAsk_7 : decode cX2_bestAsk 7 = .ok (.istore 4, 2) := by decide +kernel
theorem dX2_bestAsk_9 : decode cX2_bestAsk 9 = .ok (.iconst (-1), 1) := by decide +kernel
theorem dX2_bestAsk_10 : decode cX2_bestAsk 10 = .ok (.istore 5, 2) := by decide +kernel
theorem dX2_bestAsk_12 : decode cX2_bestAsk 12 = .ok (.bipush 7, 2) := by decide +kernel
theorem dX2_bestAsk_14 : decode cX2_bestAsk 14 = .ok (.istore 6, 2) := by decide +kernel
theorem dX2_bestAsk_16 : decode cX2_bestAsk 16 = .ok (.iconst 0, 1) := by decide +kernel
theorem dX2_bestAsk_17 : decode cX2_bestAsk 17 = .ok (.istore 7, 2) := by decide +kernel
theorem dX2_bestAsk_19 : decode cX2_bestAsk 19 = .ok (.iload 7, 2) := by decide +kernel
theorem dX2_bestAsk_21 : decode cX2_bestAsk 21 = .ok (.aload_n 1, 1) := by decide +kernel
theorem dX2_bestAsk_22 : decode cX2_bestAsk 22 = .ok (.getfield 49, 3) := by decide +kernel
theorem dX2_bestAsk_25 : decode cX2_bestAsk 25 = .ok (.if_icmp .ge 95, 3) := by decide +kernel
theorem dX2_bestAsk_28 : decode cX2_bestAsk 28 = .ok (.iload 4, 2) := by decide +kernel
theorem dX2_bestAsk_30 : decode cX2_bestAsk 30 = .ok (.ifCond .eq 90, 3) := by decide +kernel
theorem dX2_bestAsk_33 : decode cX2_bestAsk 33 = .ok (.iconst 1, 1) := by decide +kernel
theorem dX2_bestAsk_34 : decode cX2_bestAsk 34 = .ok (.istore 8, 2) := by decide +kernel
theorem dX2_bestAsk_36 : decode cX2_bestAsk 36 = .ok (.iload 8, 2) := by decide +kernel
theorem dX2_bestAsk_38 : decode cX2_bestAsk 38 = .ok (.bipush 6, 2) := by decide +kernel
theorem dX2_bestAsk_40 : decode cX2_bestAsk 40 = .ok (.if_icmp .gt 74, 3) := by decide +kernel
theorem dX2_bestAsk_43 : decode cX2_bestAsk 43 = .ok (.iconst 0, 1) := by decide +kernel
theorem dX2_bestAsk_44 : decode cX2_bestAsk 44 = .ok (.istore 9, 2) := by decide +kernel
theorem dX2_bestAsk_46 : decode cX2_bestAsk 46 = .ok (.iload 9, 2) := by decide +kernel
theorem dX2_bestAsk_48 : decode cX2_bestAsk 48 = .ok (.bipush 6, 2) := by decide +kernel
theorem dX2_bestAsk_50 : decode cX2_bestAsk 50 = .ok (.if_icmp .ge 29, 3) := by decide +kernel
theorem dX2_bestAsk_53 : decode cX2_bestAsk 53 = .ok (.aload_n 0, 1) := by decide +kernel
theorem dX2_bestAsk_54 : decode cX2_bestAsk 54 = .ok (.getfield 9, 3) := by decide +kernel
theorem dX2_bestAsk_57 : decode cX2_bestAsk 57 = .ok (.iload 9, 2) := by decide +kernel
theorem dX2_bestAsk_59 : decode cX2_bestAsk 59 = .ok (.iload 9, 2) := by decide +kernel
theorem dX2_bestAsk_61 : decode cX2_bestAsk 61 = .ok (.iload 7, 2) := by decide +kernel
theorem dX2_bestAsk_63 : decode cX2_bestAsk 63 = .ok (.iload 8, 2) := by decide +kernel
theorem dX2_bestAsk_65 : decode cX2_bestAsk 65 = .ok (.aload_n 1, 1) := by decide +kernel
theorem dX2_bestAsk_66 : decode cX2_bestAsk 66 = .ok (.getfield 49, 3) := by decide +kernel
theorem dX2_bestAsk_69 : decode cX2_bestAsk 69 = .ok (.invokestatic 69, 3) := by decide +kernel
theorem dX2_bestAsk_72 : decode cX2_bestAsk 72 = .ok (.iastore, 1) := by decide +kernel
theorem dX2_bestAsk_73 : decode cX2_bestAsk 73 = .ok (.iinc 9 1, 3) := by decide +kernel
theorem dX2_bestAsk_76 : decode cX2_bestAsk 76 = .ok (.goto (-30), 3) := by decide +kernel
theorem dX2_bestAsk_79 : decode cX2_bestAsk 79 = .ok (.aload_n 0, 1) := by decide +kernel
theorem dX2_bestAsk_80 : decode cX2_bestAsk 80 = .ok (.iload 4, 2) := by decide +kernel
theorem dX2_bestAsk_82 : decode cX2_bestAsk 82 = .ok (.invokevirtual 62, 3) := by decide +kernel
theorem dX2_bestAsk_85 : decode cX2_bestAsk 85 = .ok (.istore 9, 2) := by decide +kernel
theorem dX2_bestAsk_87 : decode cX2_bestAsk 87 = .ok (.iload 9, 2) := by decide +kernel
theorem dX2_bestAsk_89 : decode cX2_bestAsk 89 = .ok (.iload 6, 2) := by decide +kernel
theorem dX2_bestAsk_91 : decode cX2_bestAsk 91 = .ok (.if_icmp .ge 17, 3) := by decide +kernel
theorem dX2_bestAsk_94 : decode cX2_bestAsk 94 = .ok (.iload 9, 2) := by decide +kernel
theorem dX2_bestAsk_96 : decode cX2_bestAsk 96 = .ok (.istore 6, 2) := by decide +kernel
theorem dX2_bestAsk_98 : decode cX2_bestAsk 98 = .ok (.bipush 100, 2) := by decide +kernel
theorem dX2_bestAsk_100 : decode cX2_bestAsk 100 = .ok (.iload 7, 2) := by decide +kernel
theorem dX2_bestAsk_102 : decode cX2_bestAsk 102 = .ok (.imul, 1) := by decide +kernel
theorem dX2_bestAsk_103 : decode cX2_bestAsk 103 = .ok (.iload 8, 2) := by decide +kernel
theorem dX2_bestAsk_105 : decode cX2_bestAsk 105 = .ok (.iadd, 1) := by decide +kernel
theorem dX2_bestAsk_106 : decode cX2_bestAsk 106 = .ok (.istore 5, 2) := by decide +kernel
theorem dX2_bestAsk_108 : decode cX2_bestAsk 108 = .ok (.iinc 8 1, 3) := by decide +kernel
theorem dX2_bestAsk_111 : decode cX2_bestAsk 111 = .ok (.goto (-75), 3) := by decide +kernel
theorem dX2_bestAsk_114 : decode cX2_bestAsk 114 = .ok (.iinc 7 1, 3) := by decide +kernel
theorem dX2_bestAsk_117 : decode cX2_bestAsk 117 = .ok (.goto (-98), 3) := by decide +kernel
theorem dX2_bestAsk_120 : decode cX2_bestAsk 120 = .ok (.iload 5, 2) := by decide +kernel
theorem dX2_bestAsk_122 : decode cX2_bestAsk 122 = .ok (.ireturn, 1) := by decide +kernel
def fX2_bestAsk_108 (k19 : Nat → Nat → Int32 → Int32 → Int32 → Int32 → gx_H → Option (Int32 × gx_H)) (k36 : Nat → Nat → Int32 → Int32 → Int32 → Int32 → Int32 → gx_H → Option (Int32 × gx_H)) (v0 : Nat) (v1 : Nat) (v4 : Int32) (v5 : Int32) (v6 : Int32) (v7 : Int32) (v8 : Int32) (h : gx_H) : Option (Int32 × gx_H) :=
  k36 v0 v1 v4 v5 v6 v7 (v8 + (1 : Int32)) h
def bX2_bestAsk_46 (k19 : Nat → Nat → Int32 → Int32 → Int32 → Int32 → gx_H → Option (Int32 × gx_H)) (k36 : Nat → Nat → Int32 → Int32 → Int32 → Int32 → Int32 → gx_H → Option (Int32 × gx_H)) (k46 : Nat → Nat → Int32 → Int32 → Int32 → Int32 → Int32 → Int32 → gx_H → Option (Int32 × gx_H)) (v0 : Nat) (v1 : Nat) (v4 : Int32) (v5 : Int32) (v6 : Int32) (v7 : Int32) (v8 : Int32) (v9 : Int32) (h : gx_H) : Option (Int32 × gx_H) :=
  if (6 : Int32) ≤ v9 then
    gx_bd (fX2_mostAlike v0 v4 h) fun x5 h4 =>
    if v6 ≤ x5 then
      fX2_bestAsk_108 k19 k36 v0 v1 v4 v5 v6 v7 v8 h4
    else
      fX2_bestAsk_108 k19 k36 v0 v1 v4 (((100 : Int32) * v7) + v8) x5 v7 v8 h4
  else
    (gx_fR h v0 2 0).bind fun a6 =>
    (gx_fI h v1 0 0).bind fun x7 =>
    gx_bd (fX6_square v9 v7 v8 x7 h) fun x9 h8 =>
    (gx_sI 0 h8 a6 v9 x9).bind fun h10 =>
    k46 v0 v1 v4 v5 v6 v7 v8 (v9 + (1 : Int32)) h10
def fX2_bestAsk_46 (k19 : Nat → Nat → Int32 → Int32 → Int32 → Int32 → gx_H → Option (Int32 × gx_H)) (k36 : Nat → Nat → Int32 → Int32 → Int32 → Int32 → Int32 → gx_H → Option (Int32 × gx_H)) : Nat → Nat → Nat → Int32 → Int32 → Int32 → Int32 → Int32 → Int32 → gx_H → Option (Int32 × gx_H)
  | 0 => fun _ _ _ _ _ _ _ _ _ => none
  | n + 1 => bX2_bestAsk_46 k19 k36 (fX2_bestAsk_46 k19 k36 n)
def bX2_bestAsk_36 (k19 : Nat → Nat → Int32 → Int32 → Int32 → Int32 → gx_H → Option (Int32 × gx_H)) (k36 : Nat → Nat → Int32 → Int32 → Int32 → Int32 → Int32 → gx_H → Option (Int32 × gx_H)) (v0 : Nat) (v1 : Nat) (v4 : Int32) (v5 : Int32) (v6 : Int32) (v7 : Int32) (v8 : Int32) (h : gx_H) : Option (Int32 × gx_H) :=
  if (6 : Int32) < v8 then
    k19 v0 v1 v4 v5 v6 (v7 + (1 : Int32)) h
  else
    fX2_bestAsk_46 k19 k36 gx_N v0 v1 v4 v5 v6 v7 v8 (0 : Int32) h
def fX2_bestAsk_36 (k19 : Nat → Nat → Int32 → Int32 → Int32 → Int32 → gx_H → Option (Int32 × gx_H)) : Nat → Nat → Nat → Int32 → Int32 → Int32 → Int32 → Int32 → gx_H → Option (Int32 × gx_H)
  | 0 => fun _ _ _ _ _ _ _ _ => none
  | n + 1 => bX2_bestAsk_36 k19 (fX2_bestAsk_36 k19 n)
def fX2_bestAsk_120 (v5 : Int32) (h : gx_H) : Option (Int32 × gx_H) :=
  some (v5, h)
def bX2_bestAsk_19 (k19 : Nat → Nat → Int32 → Int32 → Int32 → Int32 → gx_H → Option (Int32 × gx_H)) (v0 : Nat) (v1 : Nat) (v4 : Int32) (v5 : Int32) (v6 : Int32) (v7 : Int32) (h : gx_H) : Option (Int32 × gx_H) :=
  (gx_fI h v1 0 0).bind fun x3 =>
  if x3 ≤ v7 then
    fX2_bestAsk_120 v5 h
  else
    if v4 = 0 then
      fX2_bestAsk_120 v5 h
    else
      fX2_bestAsk_36 k19 gx_N v0 v1 v4 v5 v6 v7 (1 : Int32) h
def fX2_bestAsk_19 : Nat → Nat → Nat → Int32 → Int32 → Int32 → Int32 → gx_H → Option (Int32 × gx_H)
  | 0 => fun _ _ _ _ _ _ _ => none
  | n + 1 => bX2_bestAsk_19 (fX2_bestAsk_19 n)
def fX2_bestAsk (v0 : Nat) (v1 : Nat) (v2 : Nat) (v3 : Int32) (h : gx_H) : Option (Int32 × gx_H) :=
  (gx_isO h v0 2).bind fun _ =>
  gx_bd (fX2_playerKinds v0 v1 v2 v3 h) fun x2 h1 =>
  fX2_bestAsk_19 gx_N v0 v1 x2 (-1 : Int32) (7 : Int32) (0 : Int32) h1
set_option maxRecDepth 100000 in
set_option maxHeartbeats 4000000 in
theorem gX2_bestAsk_108 {E : gx_Env} {d : Nat} (k19 : Nat → Nat → Int32 → Int32 → Int32 → Int32 → gx_H → Option (Int32 × gx_H)) (hk19 : ∀ (v0 : Nat) (v1 : Nat) (v4 : Int32) (v5 : Int32) (v6 : Int32) (v7 : Int32) (h : gx_H), gx_G E RX2 cX2_bestAsk 10 (some .int) false (d + 4) 0 0 19 [some (.ref v0), some (.ref v1), none, none, some (.int v4), some (.int v5), some (.int v6), some (.int v7), none, none] [] h (fun x : Int32 => some (.int x)) (k19 v0 v1 v4 v5 v6 v7 h))  (k36 : Nat → Nat → Int32 → Int32 → Int32 → Int32 → Int32 → gx_H → Option (Int32 × gx_H)) (hk36 : ∀ (v0 : Nat) (v1 : Nat) (v4 : Int32) (v5 : Int32) (v6 : Int32) (v7 : Int32) (v8 : Int32) (h : gx_H), gx_G E RX2 cX2_bestAsk 10 (some .int) false (d + 4) 0 0 36 [some (.ref v0), some (.ref v1), none, none, some (.int v4), some (.int v5), some (.int v6), some (.int v7), some (.int v8), none] [] h (fun x : Int32 => some (.int x)) (k36 v0 v1 v4 v5 v6 v7 v8 h))  : ∀ (v0 : Nat) (v1 : Nat) (v4 : Int32) (v5 : Int32) (v6 : Int32) (v7 : Int32) (v8 : Int32) (h : gx_H), gx_G E RX2 cX2_bestAsk 10 (some .int) false (d + 4) 0 0 108 [some (.ref v0), some (.ref v1), none, none, some (.int v4), some (.int v5), some (.int v6), some (.int v7), some (.int v8), none] [] h (fun x : Int32 => some (.int x)) (fX2_bestAsk_108 k19 k36 v0 v1 v4 v5 v6 v7 v8 h) := by
  intro v0 v1 v4 v5 v6 v7 v8 h
  unfold fX2_bestAsk_108
  refine gx_iinc (1 : Int32) [some (.ref v0), some (.ref v1), none, none, some (.int v4), some (.int v5), some (.int v6), some (.int v7), some (.int (v8 + (1 : Int32))), none] dX2_bestAsk_108 rfl (by decide) (by decide) rfl ?_
  refine gx_goto 36 dX2_bestAsk_111 (by decide) ?_
  exact gx_sub (hk36 v0 v1 v4 v5 v6 v7 (v8 + (1 : Int32)) h) (And.intro rfl (And.intro rfl (And.intro rfl (And.intro rfl (And.intro rfl (And.intro rfl (And.intro rfl True.intro)))))))
set_option maxRecDepth 100000 in
set_option maxHeartbeats 4000000 in
theorem gbX2_bestAsk_46 {E : gx_Env} {d : Nat} (k19 : Nat → Nat → Int32 → Int32 → Int32 → Int32 → gx_H → Option (Int32 × gx_H)) (hk19 : ∀ (v0 : Nat) (v1 : Nat) (v4 : Int32) (v5 : Int32) (v6 : Int32) (v7 : Int32) (h : gx_H), gx_G E RX2 cX2_bestAsk 10 (some .int) false (d + 4) 0 0 19 [some (.ref v0), some (.ref v1), none, none, some (.int v4), some (.int v5), some (.int v6), some (.int v7), none, none] [] h (fun x : Int32 => some (.int x)) (k19 v0 v1 v4 v5 v6 v7 h))  (k36 : Nat → Nat → Int32 → Int32 → Int32 → Int32 → Int32 → gx_H → Option (Int32 × gx_H)) (hk36 : ∀ (v0 : Nat) (v1 : Nat) (v4 : Int32) (v5 : Int32) (v6 : Int32) (v7 : Int32) (v8 : Int32) (h : gx_H), gx_G E RX2 cX2_bestAsk 10 (some .int) false (d + 4) 0 0 36 [some (.ref v0), some (.ref v1), none, none, some (.int v4), some (.int v5), some (.int v6), some (.int v7), some (.int v8), none] [] h (fun x : Int32 => some (.int x)) (k36 v0 v1 v4 v5 v6 v7 v8 h))  (k46 : Nat → Nat → Int32 → Int32 → Int32 → Int32 → Int32 → Int32 → gx_H → Option (Int32 × gx_H)) (hk46 : ∀ (v0 : Nat) (v1 : Nat) (v4 : Int32) (v5 : Int32) (v6 : Int32) (v7 : Int32) (v8 : Int32) (v9 : Int32) (h : gx_H), gx_G E RX2 cX2_bestAsk 10 (some .int) false (d + 4) 0 0 46 [some (.ref v0), some (.ref v1), none, none, some (.int v4), some (.int v5), some (.int v6), some (.int v7), some (.int v8), some (.int v9)] [] h (fun x : Int32 => some (.int x)) (k46 v0 v1 v4 v5 v6 v7 v8 v9 h))  : ∀ (v0 : Nat) (v1 : Nat) (v4 : Int32) (v5 : Int32) (v6 : Int32) (v7 : Int32) (v8 : Int32) (v9 : Int32) (h : gx_H), gx_G E RX2 cX2_bestAsk 10 (some .int) false (d + 4) 0 0 46 [some (.ref v0), some (.ref v1), none, none, some (.int v4), some (.int v5), some (.int v6), some (.int v7), some (.int v8), some (.int v9)] [] h (fun x : Int32 => some (.int x)) (bX2_bestAsk_46 k19 k36 k46 v0 v1 v4 v5 v6 v7 v8 v9 h) := by
  intro v0 v1 v4 v5 v6 v7 v8 v9 h
  unfold bX2_bestAsk_46
  refine gx_iload dX2_bestAsk_46 rfl ?_
  refine gx_bipush (6 : Int32) dX2_bestAsk_48 (by decide) ?_
  refine gx_icmp_ge 79 dX2_bestAsk_50 (by decide) (fun _ => ?_) (fun _ => ?_)
  · refine gx_aload_n 0 dX2_bestAsk_79 rfl rfl ?_
    refine gx_iload dX2_bestAsk_80 rfl ?_
    refine gx_callV (ci := 2) (bc := 0) (bs := 0) (mc := 0) (ms := 0) (em' := (fun x : Int32 => some (.int x))) [.int v4] kc_RX2_62 rfl dX2_bestAsk_82 rfl rfl (gx_w8 rfl) (fun x q => (gx_isO_of (by unfold fX2_mostAlike at q; exact q)).2) (fun _ _ q => okX2_mostAlike (d + 2) q) (fun x5 h4 => ?_)
    refine gx_istore [some (.ref v0), some (.ref v1), none, none, some (.int v4), some (.int v5), some (.int v6), some (.int v7), some (.int v8), some (.int x5)] dX2_bestAsk_85 (by decide) rfl ?_
    refine gx_iload dX2_bestAsk_87 rfl ?_
    refine gx_iload dX2_bestAsk_89 rfl ?_
    refine gx_icmp_ge 108 dX2_bestAsk_91 (by decide) (fun _ => ?_) (fun _ => ?_)
    · exact gx_sub (gX2_bestAsk_108 k19 hk19 k36 hk36 v0 v1 v4 v5 v6 v7 v8 h4) (And.intro rfl (And.intro rfl (And.intro rfl (And.intro rfl (And.intro rfl (And.intro rfl (And.intro rfl True.intro)))))))
    · refine gx_iload dX2_bestAsk_94 rfl ?_
      refine gx_istore [some (.ref v0), some (.ref v1), none, none, some (.int v4), some (.int v5), some (.int x5), some (.int v7), some (.int v8), some (.int x5)] dX2_bestAsk_96 (by decide) rfl ?_
      refine gx_bipush (100 : Int32) dX2_bestAsk_98 (by decide) ?_
      refine gx_iload dX2_bestAsk_100 rfl ?_
      refine gx_imul dX2_bestAsk_102 ?_
      refine gx_iload dX2_bestAsk_103 rfl ?_
      refine gx_iadd dX2_bestAsk_105 ?_
      refine gx_istore [some (.ref v0), some (.ref v1), none, none, some (.int v4), some (.int (((100 : Int32) * v7) + v8)), some (.int x5), some (.int v7), some (.int v8), some (.int x5)] dX2_bestAsk_106 (by decide) rfl ?_
      exact gx_sub (gX2_bestAsk_108 k19 hk19 k36 hk36 v0 v1 v4 (((100 : Int32) * v7) + v8) x5 v7 v8 h4) (And.intro rfl (And.intro rfl (And.intro rfl (And.intro rfl (And.intro rfl (And.intro rfl (And.intro rfl True.intro)))))))
  · refine gx_aload_n 0 dX2_bestAsk_53 rfl rfl ?_
    refine gx_getR kf_RX2_9 dX2_bestAsk_54 (fun a6 => ?_)
    refine gx_iload dX2_bestAsk_57 rfl ?_
    refine gx_iload dX2_bestAsk_59 rfl ?_
    refine gx_iload dX2_bestAsk_61 rfl ?_
    refine gx_iload dX2_bestAsk_63 rfl ?_
    refine gx_aload_n 1 dX2_bestAsk_65 rfl rfl ?_
    refine gx_getI kf_RX2_49 dX2_bestAsk_66 (fun x7 => ?_)
    refine gx_callS (bc := 0) (bs := 0) (mc := 0) (ms := 0) (em' := (fun x : Int32 => some (.int x))) [.int v9, .int v7, .int v8, .int x7] kc_RX2_69 dX2_bestAsk_69 rfl rfl (gx_w8 rfl) (fun _ _ q => okX6_square (d + 2) q) (fun x9 h8 => ?_)
    refine gx_iast dX2_bestAsk_72 (fun h10 => ?_)
    refine gx_iinc (1 : Int32) [some (.ref v0), some (.ref v1), none, none, some (.int v4), some (.int v5), some (.int v6), some (.int v7), some (.int v8), some (.int (v9 + (1 : Int32)))] dX2_bestAsk_73 rfl (by decide) (by decide) rfl ?_
    refine gx_goto 46 dX2_bestAsk_76 (by decide) ?_
    exact gx_sub (hk46 v0 v1 v4 v5 v6 v7 v8 (v9 + (1 : Int32)) h10) (And.intro rfl (And.intro rfl (And.intro rfl (And.intro rfl (And.intro rfl (And.intro rfl (And.intro rfl (And.intro rfl True.intro))))))))
set_option maxRecDepth 100000 in
set_option maxHeartbeats 4000000 in
theorem gX2_bestAsk_46 {E : gx_Env} {d : Nat} (k19 : Nat → Nat → Int32 → Int32 → Int32 → Int32 → gx_H → Option (Int32 × gx_H)) (hk19 : ∀ (v0 : Nat) (v1 : Nat) (v4 : Int32) (v5 : Int32) (v6 : Int32) (v7 : Int32) (h : gx_H), gx_G E RX2 cX2_bestAsk 10 (some .int) false (d + 4) 0 0 19 [some (.ref v0), some (.ref v1), none, none, some (.int v4), some (.int v5), some (.int v6), some (.int v7), none, none] [] h (fun x : Int32 => some (.int x)) (k19 v0 v1 v4 v5 v6 v7 h))  (k36 : Nat → Nat → Int32 → Int32 → Int32 → Int32 → Int32 → gx_H → Option (Int32 × gx_H)) (hk36 : ∀ (v0 : Nat) (v1 : Nat) (v4 : Int32) (v5 : Int32) (v6 : Int32) (v7 : Int32) (v8 : Int32) (h : gx_H), gx_G E RX2 cX2_bestAsk 10 (some .int) false (d + 4) 0 0 36 [some (.ref v0), some (.ref v1), none, none, some (.int v4), some (.int v5), some (.int v6), some (.int v7), some (.int v8), none] [] h (fun x : Int32 => some (.int x)) (k36 v0 v1 v4 v5 v6 v7 v8 h))  : ∀ (n : Nat) (v0 : Nat) (v1 : Nat) (v4 : Int32) (v5 : Int32) (v6 : Int32) (v7 : Int32) (v8 : Int32) (v9 : Int32) (h : gx_H), gx_G E RX2 cX2_bestAsk 10 (some .int) false (d + 4) 0 0 46 [some (.ref v0), some (.ref v1), none, none, some (.int v4), some (.int v5), some (.int v6), some (.int v7), some (.int v8), some (.int v9)] [] h (fun x : Int32 => some (.int x)) (fX2_bestAsk_46 k19 k36 n v0 v1 v4 v5 v6 v7 v8 v9 h) := by
  intro n
  induction n with
  | zero => intro v0 v1 v4 v5 v6 v7 v8 v9 h; exact gx_none
  | succ n ih => exact gbX2_bestAsk_46 k19 hk19 k36 hk36 (fX2_bestAsk_46 k19 k36 n) ih
set_option maxRecDepth 100000 in
set_option maxHeartbeats 4000000 in
theorem gbX2_bestAsk_36 {E : gx_Env} {d : Nat} (k19 : Nat → Nat → Int32 → Int32 → Int32 → Int32 → gx_H → Option (Int32 × gx_H)) (hk19 : ∀ (v0 : Nat) (v1 : Nat) (v4 : Int32) (v5 : Int32) (v6 : Int32) (v7 : Int32) (h : gx_H), gx_G E RX2 cX2_bestAsk 10 (some .int) false (d + 4) 0 0 19 [some (.ref v0), some (.ref v1), none, none, some (.int v4), some (.int v5), some (.int v6), some (.int v7), none, none] [] h (fun x : Int32 => some (.int x)) (k19 v0 v1 v4 v5 v6 v7 h))  (k36 : Nat → Nat → Int32 → Int32 → Int32 → Int32 → Int32 → gx_H → Option (Int32 × gx_H)) (hk36 : ∀ (v0 : Nat) (v1 : Nat) (v4 : Int32) (v5 : Int32) (v6 : Int32) (v7 : Int32) (v8 : Int32) (h : gx_H), gx_G E RX2 cX2_bestAsk 10 (some .int) false (d + 4) 0 0 36 [some (.ref v0), some (.ref v1), none, none, some (.int v4), some (.int v5), some (.int v6), some (.int v7), some (.int v8), none] [] h (fun x : Int32 => some (.int x)) (k36 v0 v1 v4 v5 v6 v7 v8 h))  : ∀ (v0 : Nat) (v1 : Nat) (v4 : Int32) (v5 : Int32) (v6 : Int32) (v7 : Int32) (v8 : Int32) (h : gx_H), gx_G E RX2 cX2_bestAsk 10 (some .int) false (d + 4) 0 0 36 [some (.ref v0), some (.ref v1), none, none, some (.int v4), some (.int v5), some (.int v6), some (.int v7), some (.int v8), none] [] h (fun x : Int32 => some (.int x)) (bX2_bestAsk_36 k19 k36 v0 v1 v4 v5 v6 v7 v8 h) := by
  intro v0 v1 v4 v5 v6 v7 v8 h
  unfold bX2_bestAsk_36
  refine gx_iload dX2_bestAsk_36 rfl ?_
  refine gx_bipush (6 : Int32) dX2_bestAsk_38 (by decide) ?_
  refine gx_icmp_gt 114 dX2_bestAsk_40 (by decide) (fun _ => ?_) (fun _ => ?_)
  · refine gx_iinc (1 : Int32) [some (.ref v0), some (.ref v1), none, none, some (.int v4), some (.int v5), some (.int v6), some (.int (v7 + (1 : Int32))), some (.int v8), none] dX2_bestAsk_114 rfl (by decide) (by decide) rfl ?_
    refine gx_goto 19 dX2_bestAsk_117 (by decide) ?_
    exact gx_sub (hk19 v0 v1 v4 v5 v6 (v7 + (1 : Int32)) h) (And.intro rfl (And.intro rfl (And.intro rfl (And.intro rfl (And.intro rfl (And.intro rfl True.intro))))))
  · refine gx_iconst (0 : Int32) dX2_bestAsk_43 (by decide) ?_
    refine gx_istore [some (.ref v0), some (.ref v1), none, none, some (.int v4), some (.int v5), some (.int v6), some (.int v7), some (.int v8), some (.int (0 : Int32))] dX2_bestAsk_44 (by decide) rfl ?_
    exact gx_sub (gX2_bestAsk_46 k19 hk19 k36 hk36 gx_N v0 v1 v4 v5 v6 v7 v8 (0 : Int32) h) (And.intro rfl (And.intro rfl (And.intro rfl (And.intro rfl (And.intro rfl (And.intro rfl (And.intro rfl (And.intro rfl True.intro))))))))
set_option maxRecDepth 100000 in
set_option maxHeartbeats 4000000 in
theorem gX2_bestAsk_36 {E : gx_Env} {d : Nat} (k19 : Nat → Nat → Int32 → Int32 → Int32 → Int32 → gx_H → Option (Int32 × gx_H)) (hk19 : ∀ (v0 : Nat) (v1 : Nat) (v4 : Int32) (v5 : Int32) (v6 : Int32) (v7 : Int32) (h : gx_H), gx_G E RX2 cX2_bestAsk 10 (some .int) false (d + 4) 0 0 19 [some (.ref v0), some (.ref v1), none, none, some (.int v4), some (.int v5), some (.int v6), some (.int v7), none, none] [] h (fun x : Int32 => some (.int x)) (k19 v0 v1 v4 v5 v6 v7 h))  : ∀ (n : Nat) (v0 : Nat) (v1 : Nat) (v4 : Int32) (v5 : Int32) (v6 : Int32) (v7 : Int32) (v8 : Int32) (h : gx_H), gx_G E RX2 cX2_bestAsk 10 (some .int) false (d + 4) 0 0 36 [some (.ref v0), some (.ref v1), none, none, some (.int v4), some (.int v5), some (.int v6), some (.int v7), some (.int v8), none] [] h (fun x : Int32 => some (.int x)) (fX2_bestAsk_36 k19 n v0 v1 v4 v5 v6 v7 v8 h) := by
  intro n
  induction n with
  | zero => intro v0 v1 v4 v5 v6 v7 v8 h; exact gx_none
  | succ n ih => exact gbX2_bestAsk_36 k19 hk19 (fX2_bestAsk_36 k19 n) ih
set_option maxRecDepth 100000 in
set_option maxHeartbeats 4000000 in
theorem gX2_bestAsk_120 {E : gx_Env} {d : Nat}  : ∀ (v5 : Int32) (h : gx_H), gx_G E RX2 cX2_bestAsk 10 (some .int) false (d + 4) 0 0 120 [none, none, none, none, none, some (.int v5), none, none, none, none] [] h (fun x : Int32 => some (.int x)) (fX2_bestAsk_120 v5 h) := by
  intro v5 h
  unfold fX2_bestAsk_120
  refine gx_iload dX2_bestAsk_120 rfl ?_
  exact gx_iret dX2_bestAsk_122 rfl
set_option maxRecDepth 100000 in
set_option maxHeartbeats 4000000 in
theorem gbX2_bestAsk_19 {E : gx_Env} {d : Nat}  (k19 : Nat → Nat → Int32 → Int32 → Int32 → Int32 → gx_H → Option (Int32 × gx_H)) (hk19 : ∀ (v0 : Nat) (v1 : Nat) (v4 : Int32) (v5 : Int32) (v6 : Int32) (v7 : Int32) (h : gx_H), gx_G E RX2 cX2_bestAsk 10 (some .int) false (d + 4) 0 0 19 [some (.ref v0), some (.ref v1), none, none, some (.int v4), some (.int v5), some (.int v6), some (.int v7), none, none] [] h (fun x : Int32 => some (.int x)) (k19 v0 v1 v4 v5 v6 v7 h))  : ∀ (v0 : Nat) (v1 : Nat) (v4 : Int32) (v5 : Int32) (v6 : Int32) (v7 : Int32) (h : gx_H), gx_G E RX2 cX2_bestAsk 10 (some .int) false (d + 4) 0 0 19 [some (.ref v0), some (.ref v1), none, none, some (.int v4), some (.int v5), some (.int v6), some (.int v7), none, none] [] h (fun x : Int32 => some (.int x)) (bX2_bestAsk_19 k19 v0 v1 v4 v5 v6 v7 h) := by
  intro v0 v1 v4 v5 v6 v7 h
  unfold bX2_bestAsk_19
  refine gx_iload dX2_bestAsk_19 rfl ?_
  refine gx_aload_n 1 dX2_bestAsk_21 rfl rfl ?_
  refine gx_getI kf_RX2_49 dX2_bestAsk_22 (fun x3 => ?_)
  refine gx_icmp_ge 120 dX2_bestAsk_25 (by decide) (fun _ => ?_) (fun _ => ?_)
  · exact gx_sub (gX2_bestAsk_120 v5 h) (And.intro rfl True.intro)
  · refine gx_iload dX2_bestAsk_28 rfl ?_
    refine gx_if_eq 120 dX2_bestAsk_30 (by decide) (fun _ => ?_) (fun _ => ?_)
    · exact gx_sub (gX2_bestAsk_120 v5 h) (And.intro rfl True.intro)
    · refine gx_iconst (1 : Int32) dX2_bestAsk_33 (by decide) ?_
      refine gx_istore [some (.ref v0), some (.ref v1), none, none, some (.int v4), some (.int v5), some (.int v6), some (.int v7), some (.int (1 : Int32)), none] dX2_bestAsk_34 (by decide) rfl ?_
      exact gx_sub (gX2_bestAsk_36 k19 hk19 gx_N v0 v1 v4 v5 v6 v7 (1 : Int32) h) (And.intro rfl (And.intro rfl (And.intro rfl (And.intro rfl (And.intro rfl (And.intro rfl (And.intro rfl True.intro)))))))
set_option maxRecDepth 100000 in
set_option maxHeartbeats 4000000 in
theorem gX2_bestAsk_19 {E : gx_Env} {d : Nat}  : ∀ (n : Nat) (v0 : Nat) (v1 : Nat) (v4 : Int32) (v5 : Int32) (v6 : Int32) (v7 : Int32) (h : gx_H), gx_G E RX2 cX2_bestAsk 10 (some .int) false (d + 4) 0 0 19 [some (.ref v0), some (.ref v1), none, none, some (.int v4), some (.int v5), some (.int v6), some (.int v7), none, none] [] h (fun x : Int32 => some (.int x)) (fX2_bestAsk_19 n v0 v1 v4 v5 v6 v7 h) := by
  intro n
  induction n with
  | zero => intro v0 v1 v4 v5 v6 v7 h; exact gx_none
  | succ n ih => exact gbX2_bestAsk_19  (fX2_bestAsk_19  n) ih
set_option maxRecDepth 100000 in
set_option maxHeartbeats 4000000 in
theorem geX2_bestAsk {E : gx_Env} {d : Nat} (v0 : Nat) (v1 : Nat) (v2 : Nat) (v3 : Int32) (h : gx_H) : gx_G E RX2 cX2_bestAsk 10 (some .int) false (d + 4) 0 0 0 [some (.ref v0), some (.ref v1), some (.ref v2), some (.int v3), none, none, none, none, none, none] [] h (fun x : Int32 => some (.int x)) (fX2_bestAsk v0 v1 v2 v3 h) := by
  unfold fX2_bestAsk
  refine gx_bind fun _ _ => ?_
  refine gx_aload_n 0 dX2_bestAsk_0 rfl rfl ?_
  refine gx_aload_n 1 dX2_bestAsk_1 rfl rfl ?_
  refine gx_aload_n 2 dX2_bestAsk_2 rfl rfl ?_
  refine gx_iload_n 3 dX2_bestAsk_3 rfl rfl ?_
  refine gx_callV (ci := 2) (bc := 0) (bs := 0) (mc := 0) (ms := 0) (em' := (fun x : Int32 => some (.int x))) [.ref v1, .ref v2, .int v3] kc_RX2_74 rfl dX2_bestAsk_4 rfl rfl (gx_w8 rfl) (fun x q => (gx_isO_of (by unfold fX2_playerKinds at q; exact q)).2) (fun _ _ q => okX2_playerKinds d q) (fun x2 h1 => ?_)
  refine gx_istore [some (.ref v0), some (.ref v1), some (.ref v2), some (.int v3), some (.int x2), none, none, none, none, none] dX2_bestAsk_7 (by decide) rfl ?_
  refine gx_iconst (-1 : Int32) dX2_bestAsk_9 (by decide) ?_
  refine gx_istore [some (.ref v0), some (.ref v1), some (.ref v2), some (.int v3), some (.int x2), some (.int (-1 : Int32)), none, none, none, none] dX2_bestAsk_10 (by decide) rfl ?_
  refine gx_bipush (7 : Int32) dX2_bestAsk_12 (by decide) ?_
  refine gx_istore [some (.ref v0), some (.ref v1), some (.ref v2), some (.int v3), some (.int x2), some (.int (-1 : Int32)), some (.int (7 : Int32)), none, none, none] dX2_bestAsk_14 (by decide) rfl ?_
  refine gx_iconst (0 : Int32) dX2_bestAsk_16 (by decide) ?_
  refine gx_istore [some (.ref v0), some (.ref v1), some (.ref v2), some (.int v3), some (.int x2), some (.int (-1 : Int32)), some (.int (7 : Int32)), some (.int (0 : Int32)), none, none] dX2_bestAsk_17 (by decide) rfl ?_
  exact gx_sub (gX2_bestAsk_19 gx_N v0 v1 x2 (-1 : Int32) (7 : Int32) (0 : Int32) h1) (And.intro rfl (And.intro rfl (And.intro rfl (And.intro rfl (And.intro rfl (And.intro rfl True.intro))))))
theorem okX2_bestAsk {E : gx_Env} (d : Nat) {v0 : Nat} {v1 : Nat} {v2 : Nat} {v3 : Int32} {h : gx_H} {r : Int32} {h1 : gx_H} (q : fX2_bestAsk v0 v1 v2 v3 h = some (r, h1)) : gx_M E yX2_bestAsk cX2_bestAsk 10 (some .int) (d + 4) 0 0 [.ref v0, .ref v1, .ref v2, .int v3] h ((fun x : Int32 => some (.int x)) r) h1 := gx_meth (y := yX2_bestAsk) (cc := cX2_bestAsk) (nL := 10) (em := (fun x : Int32 => some (.int x))) (ini := false) [.ref v0, .ref v1, .ref v2, .int v3] (by decide) (by simp [gx_sl]) (fun q => by cases q) (geX2_bestAsk v0 v1 v2 v3 h) q
theorem dX3_dropOldest_0 : decode cX3_dropOldest 0 = .ok (.aload_n 0, 1) := by decide +kernel
theorem dX3_dropOldest_1 : decode cX3_dropOldest 1 = .ok (.getfield 19, 3) := by decide +kernel
theorem dX3_dropOldest_4 : decode cX3_dropOldest 4 = .ok (.iconst 0, 1) := by decide +kernel
theorem dX3_dropOldest_5 : decode cX3_dropOldest 5 = .ok (.aaload, 1) := by decide +kernel
theorem dX3_dropOldest_6 : decode cX3_dropOldest 6 = .ok (.astore_n 1, 1) := by decide +kernel
theorem dX3_dropOldest_7 : decode cX3_dropOldest 7 = .ok (.iconst 1, 1) := by decide +kernel
theorem dX3_dropOldest_8 : decode cX3_dropOldest 8 = .ok (.istore_n 2, 1) := by decide +kernel
theorem dX3_dropOldest_9 : decode cX3_dropOldest 9 = .ok (.iload_n 2, 1) := by decide +kernel
theorem dX3_dropOldest_10 : decode cX3_dropOldest 10 = .ok (.bipush 8, 2) := by decide +kernel
theorem dX3_dropOldest_12 : decode cX3_dropOldest 12 = .ok (.if_icmp .ge 23, 3) := by decide +kernel
theorem dX3_dropOldest_15 : decode cX3_dropOldest 15 = .ok (.aload_n 0, 1) := by decide +kernel
theorem dX3_dropOldest_16 : decode cX3_dropOldest 16 = .ok (.getfield 19, 3) := by decide +kernel
theorem dX3_dropOldest_19 : decode cX3_dropOldest 19 = .ok (.iload_n 2, 1) := by decide +kernel
theorem dX3_dropOldest_20 : decode cX3_dropOldest 20 = .ok (.iconst 1, 1) := by decide +kernel
theorem dX3_dropOldest_21 : decode cX3_dropOldest 21 = .ok (.isub, 1) := by decide +kernel
theorem dX3_dropOldest_22 : decode cX3_dropOldest 22 = .ok (.aload_n 0, 1) := by decide +kernel
theorem dX3_dropOldest_23 : decode cX3_dropOldest 23 = .ok (.getfield 19, 3) := by decide +kernel
theorem dX3_dropOldest_26 : decode cX3_dropOldest 26 = .ok (.iload_n 2, 1) := by decide +kernel
theorem dX3_dropOldest_27 : decode cX3_dropOldest 27 = .ok (.aaload, 1) := by decide +kernel
theorem dX3_dropOldest_28 : decode cX3_dropOldest 28 = .ok (.aastore, 1) := by decide +kernel
theorem dX3_dropOldest_29 : decode cX3_dropOldest 29 = .ok (.iinc 2 1, 3) := by decide +kernel
theorem dX3_dropOldest_32 : decode cX3_dropOldest 32 = .ok (.goto (-23), 3) := by decide +kernel
theorem dX3_dropOldest_35 : decode cX3_dropOldest 35 = .ok (.aload_n 0, 1) := by decide +kernel
theorem dX3_dropOldest_36 : decode cX3_dropOldest 36 = .ok (.getfield 19, 3) := by decide +kernel
theorem dX3_dropOldest_39 : decode cX3_dropOldest 39 = .ok (.bipush 7, 2) := by decide +kernel
theorem dX3_dropOldest_41 : decode cX3_dropOldest 41 = .ok (.aload_n 1, 1) := by decide +kernel
theorem dX3_dropOldest_42 : decode cX3_dropOldest 42 = .ok (.aastore, 1) := by decide +kernel
theorem dX3_dropOldest_43 : decode cX3_dropOldest 43 = .ok (.aload_n 0, 1) := by decide +kernel
theorem dX3_dropOldest_44 : decode cX3_dropOldest 44 = .ok (.bipush 7, 2) := by decide +kernel
theorem dX3_dropOldest_46 : decode cX3_dropOldest 46 = .ok (.putfield 9, 3) := by decide +kernel
theorem dX3_dropOldest_49 : decode cX3_dropOldest 49 = .ok (.return_, 1) := by decide +kernel
def bX3_dropOldest_9 (k9 : Nat → Nat → Int32 → gx_H → Option (Unit × gx_H)) (v0 : Nat) (v1 : Nat) (v2 : Int32) (h : gx_H) : Option (Unit × gx_H) :=
  if (8 : Int32) ≤ v2 then
    (gx_fR h v0 3 1).bind fun a3 =>
    (gx_isO h v1 6).bind fun _ =>
    (gx_sR 3 h a3 (7 : Int32) v1).bind fun h4 =>
    (gx_pF h4 v0 3 0 (.int (7 : Int32))).bind fun h5 =>
    some ((), h5)
  else
    (gx_fR h v0 3 1).bind fun a6 =>
    (gx_fR h v0 3 1).bind fun a7 =>
    (gx_aR 3 h a7 v2).bind fun a8 =>
    (gx_isO h a8 6).bind fun _ =>
    (gx_sR 3 h a6 (v2 - (1 : Int32)) a8).bind fun h9 =>
    k9 v0 v1 (v2 + (1 : Int32)) h9
def fX3_dropOldest_9 : Nat → Nat → Nat → Int32 → gx_H → Option (Unit × gx_H)
  | 0 => fun _ _ _ _ => none
  | n + 1 => bX3_dropOldest_9 (fX3_dropOldest_9 n)
def fX3_dropOldest (v0 : Nat) (h : gx_H) : Option (Unit × gx_H) :=
  (gx_isO h v0 3).bind fun _ =>
  (gx_fR h v0 3 1).bind fun a1 =>
  (gx_aR 3 h a1 (0 : Int32)).bind fun a2 =>
  fX3_dropOldest_9 gx_N v0 a2 (1 : Int32) h
set_option maxRecDepth 100000 in
set_option maxHeartbeats 4000000 in
theorem gbX3_dropOldest_9 {E : gx_Env} {d : Nat}  (k9 : Nat → Nat → Int32 → gx_H → Option (Unit × gx_H)) (hk9 : ∀ (v0 : Nat) (v1 : Nat) (v2 : Int32) (h : gx_H), gx_G E RX3 cX3_dropOldest 3 none false d 0 0 9 [some (.ref v0), some (.ref v1), some (.int v2)] [] h (fun _ : Unit => none) (k9 v0 v1 v2 h))  : ∀ (v0 : Nat) (v1 : Nat) (v2 : Int32) (h : gx_H), gx_G E RX3 cX3_dropOldest 3 none false d 0 0 9 [some (.ref v0), some (.ref v1), some (.int v2)] [] h (fun _ : Unit => none) (bX3_dropOldest_9 k9 v0 v1 v2 h) := by
  intro v0 v1 v2 h
  unfold bX3_dropOldest_9
  refine gx_iload_n 2 dX3_dropOldest_9 rfl rfl ?_
  refine gx_bipush (8 : Int32) dX3_dropOldest_10 (by decide) ?_
  refine gx_icmp_ge 35 dX3_dropOldest_12 (by decide) (fun _ => ?_) (fun _ => ?_)
  · refine gx_aload_n 0 dX3_dropOldest_35 rfl rfl ?_
    refine gx_getR kf_RX3_19 dX3_dropOldest_36 (fun a3 => ?_)
    refine gx_bipush (7 : Int32) dX3_dropOldest_39 (by decide) ?_
    refine gx_aload_n 1 dX3_dropOldest_41 rfl rfl ?_
    refine gx_aast3 dX3_dropOldest_42 (fun h4 => ?_)
    refine gx_aload_n 0 dX3_dropOldest_43 rfl rfl ?_
    refine gx_bipush (7 : Int32) dX3_dropOldest_44 (by decide) ?_
    refine gx_putI kp_RX3_9 (fun q => by cases q) dX3_dropOldest_46 (fun h5 => ?_)
    exact gx_vret dX3_dropOldest_49 rfl
  · refine gx_aload_n 0 dX3_dropOldest_15 rfl rfl ?_
    refine gx_getR kf_RX3_19 dX3_dropOldest_16 (fun a6 => ?_)
    refine gx_iload_n 2 dX3_dropOldest_19 rfl rfl ?_
    refine gx_iconst (1 : Int32) dX3_dropOldest_20 (by decide) ?_
    refine gx_isub dX3_dropOldest_21 ?_
    refine gx_aload_n 0 dX3_dropOldest_22 rfl rfl ?_
    refine gx_getR kf_RX3_19 dX3_dropOldest_23 (fun a7 => ?_)
    refine gx_iload_n 2 dX3_dropOldest_26 rfl rfl ?_
    refine gx_aald3 dX3_dropOldest_27 (fun a8 => ?_)
    refine gx_aast3 dX3_dropOldest_28 (fun h9 => ?_)
    refine gx_iinc (1 : Int32) [some (.ref v0), some (.ref v1), some (.int (v2 + (1 : Int32)))] dX3_dropOldest_29 rfl (by decide) (by decide) rfl ?_
    refine gx_goto 9 dX3_dropOldest_32 (by decide) ?_
    exact gx_sub (hk9 v0 v1 (v2 + (1 : Int32)) h9) (And.intro rfl (And.intro rfl (And.intro rfl True.intro)))
set_option maxRecDepth 100000 in
set_option maxHeartbeats 4000000 in
theorem gX3_dropOldest_9 {E : gx_Env} {d : Nat}  : ∀ (n : Nat) (v0 : Nat) (v1 : Nat) (v2 : Int32) (h : gx_H), gx_G E RX3 cX3_dropOldest 3 none false d 0 0 9 [some (.ref v0), some (.ref v1), some (.int v2)] [] h (fun _ : Unit => none) (fX3_dropOldest_9 n v0 v1 v2 h) := by
  intro n
  induction n with
  | zero => intro v0 v1 v2 h; exact gx_none
  | succ n ih => exact gbX3_dropOldest_9  (fX3_dropOldest_9  n) ih
set_option maxRecDepth 100000 in
set_option maxHeartbeats 4000000 in
theorem geX3_dropOldest {E : gx_Env} {d : Nat} (v0 : Nat) (h : gx_H) : gx_G E RX3 cX3_dropOldest 3 none false d 0 0 0 [some (.ref v0), none, none] [] h (fun _ : Unit => none) (fX3_dropOldest v0 h) := by
  unfold fX3_dropOldest
  refine gx_bind fun _ _ => ?_
  refine gx_aload_n 0 dX3_dropOldest_0 rfl rfl ?_
  refine gx_getR kf_RX3_19 dX3_dropOldest_1 (fun a1 => ?_)
  refine gx_iconst (0 : Int32) dX3_dropOldest_4 (by decide) ?_
  refine gx_aald3 dX3_dropOldest_5 (fun a2 => ?_)
  refine gx_astore_n 1 [some (.ref v0), some (.ref a2), none] dX3_dropOldest_6 rfl (by decide) rfl ?_
  refine gx_iconst (1 : Int32) dX3_dropOldest_7 (by decide) ?_
  refine gx_istore_n 2 [some (.ref v0), some (.ref a2), some (.int (1 : Int32))] dX3_dropOldest_8 rfl (by decide) rfl ?_
  exact gx_sub (gX3_dropOldest_9 gx_N v0 a2 (1 : Int32) h) (And.intro rfl (And.intro rfl (And.intro rfl True.intro)))
theorem okX3_dropOldest {E : gx_Env} (d : Nat) {v0 : Nat} {h : gx_H} {r : Unit} {h1 : gx_H} (q : fX3_dropOldest v0 h = some (r, h1)) : gx_M E yX3_dropOldest cX3_dropOldest 3 none d 0 0 [.ref v0] h ((fun _ : Unit => none) r) h1 := gx_meth (y := yX3_dropOldest) (cc := cX3_dropOldest) (nL := 3) (em := (fun _ : Unit => none)) (ini := false) [.ref v0] (by decide) (by simp [gx_sl]) (fun q => by cases q) (geX3_dropOldest v0 h) q
theorem dX3_nextStep_0 : decode cX3_nextStep 0 = .ok (.aload_n 0, 1) := by decide +kernel
theorem dX3_nextStep_1 : decode cX3_nextStep 1 = .ok (.getfield 9, 3) := by decide +kernel
theorem dX3_nextStep_4 : decode cX3_nextStep 4 = .ok (.bipush 8, 2) := by decide +kernel
theorem dX3_nextStep_6 : decode cX3_nextStep 6 = .ok (.if_icmp .lt 7, 3) := by decide +kernel
theorem dX3_nextStep_9 : decode cX3_nextStep 9 = .ok (.aload_n 0, 1) := by decide +kernel
theorem dX3_nextStep_10 : decode cX3_nextStep 10 = .ok (.invokevirtual 32, 3) := by decide +kernel
theorem dX3_nextStep_13 : decode cX3_nextStep 13 = .ok (.aload_n 0, 1) := by decide +kernel
theorem dX3_nextStep_14 : decode cX3_nextStep 14 = .ok (.getfield 19, 3) := by decide +kernel
theorem dX3_nextStep_17 : decode cX3_nextStep 17 = .ok (.aload_n 0, 1) := by decide +kernel
theorem dX3_nextStep_18 : decode cX3_nextStep 18 = .ok (.getfield 9, 3) := by decide +kernel
theorem dX3_nextStep_21 : decode cX3_nextStep 21 = .ok (.aaload, 1) := by decide +kernel
theorem dX3_nextStep_22 : decode cX3_nextStep 22 = .ok (.astore_n 1, 1) := by decide +kernel
theorem dX3_nextStep_23 : decode cX3_nextStep 23 = .ok (.aload_n 0, 1) := by decide +kernel
theorem dX3_nextStep_24 : decode cX3_nextStep 24 = .ok (.dup, 1) := by decide +kernel
theorem dX3_nextStep_25 : decode cX3_nextStep 25 = .ok (.getfield 9, 3) := by decide +kernel
theorem dX3_nextStep_28 : decode cX3_nextStep 28 = .ok (.iconst 1, 1) := by decide +kernel
theorem dX3_nextStep_29 : decode cX3_nextStep 29 = .ok (.iadd, 1) := by decide +kernel
theorem dX3_nextStep_30 : decode cX3_nextStep 30 = .ok (.putfield 9, 3) := by decide +kernel
theorem dX3_nextStep_33 : decode cX3_nextStep 33 = .ok (.aload_n 1, 1) := by decide +kernel
theorem dX3_nextStep_34 : decode cX3_nextStep 34 = .ok (.areturn, 1) := by decide +kernel
def fX3_nextStep_13 (v0 : Nat) (h : gx_H) : Option (Nat × gx_H) :=
  (gx_fR h v0 3 1).bind fun a4 =>
  (gx_fI h v0 3 0).bind fun x5 =>
  (gx_aR 3 h a4 x5).bind fun a6 =>
  (gx_fI h v0 3 0).bind fun x7 =>
  (gx_pF h v0 3 0 (.int (x7 + (1 : Int32)))).bind fun h8 =>
  some (a6, h8)
def fX3_nextStep (v0 : Nat) (h : gx_H) : Option (Nat × gx_H) :=
  (gx_isO h v0 3).bind fun _ =>
  (gx_fI h v0 3 0).bind fun x1 =>
  if x1 < (8 : Int32) then
    fX3_nextStep_13 v0 h
  else
    gx_bd (fX3_dropOldest v0 h) fun u3 h2 =>
    fX3_nextStep_13 v0 h2
set_option maxRecDepth 100000 in
set_option maxHeartbeats 4000000 in
theorem gX3_nextStep_13 {E : gx_Env} {d : Nat}  : ∀ (v0 : Nat) (h : gx_H), gx_G E RX3 cX3_nextStep 2 (some (.object "SnakeLadders$Step")) false (d + 1) 0 0 13 [some (.ref v0), none] [] h (fun x : Nat => some (.ref x)) (fX3_nextStep_13 v0 h) := by
  intro v0 h
  unfold fX3_nextStep_13
  refine gx_aload_n 0 dX3_nextStep_13 rfl rfl ?_
  refine gx_getR kf_RX3_19 dX3_nextStep_14 (fun a4 => ?_)
  refine gx_aload_n 0 dX3_nextStep_17 rfl rfl ?_
  refine gx_getI kf_RX3_9 dX3_nextStep_18 (fun x5 => ?_)
  refine gx_aald3 dX3_nextStep_21 (fun a6 => ?_)
  refine gx_astore_n 1 [some (.ref v0), some (.ref a6)] dX3_nextStep_22 rfl (by decide) rfl ?_
  refine gx_aload_n 0 dX3_nextStep_23 rfl rfl ?_
  refine gx_dup dX3_nextStep_24 rfl ?_
  refine gx_getI kf_RX3_9 dX3_nextStep_25 (fun x7 => ?_)
  refine gx_iconst (1 : Int32) dX3_nextStep_28 (by decide) ?_
  refine gx_iadd dX3_nextStep_29 ?_
  refine gx_putI kp_RX3_9 (fun q => by cases q) dX3_nextStep_30 (fun h8 => ?_)
  refine gx_aload_n 1 dX3_nextStep_33 rfl rfl ?_
  exact gx_aret dX3_nextStep_34 rfl (by first | exact Or.inl ⟨_, rfl⟩ | exact Or.inr ⟨_, rfl⟩)
set_option maxRecDepth 100000 in
set_option maxHeartbeats 4000000 in
theorem geX3_nextStep {E : gx_Env} {d : Nat} (v0 : Nat) (h : gx_H) : gx_G E RX3 cX3_nextStep 2 (some (.object "SnakeLadders$Step")) false (d + 1) 0 0 0 [some (.ref v0), none] [] h (fun x : Nat => some (.ref x)) (fX3_nextStep v0 h) := by
  unfold fX3_nextStep
  refine gx_bind fun _ _ => ?_
  refine gx_aload_n 0 dX3_nextStep_0 rfl rfl ?_
  refine gx_getI kf_RX3_9 dX3_nextStep_1 (fun x1 => ?_)
  refine gx_bipush (8 : Int32) dX3_nextStep_4 (by decide) ?_
  refine gx_icmp_lt 13 dX3_nextStep_6 (by decide) (fun _ => ?_) (fun _ => ?_)
  · exact gx_sub (gX3_nextStep_13 v0 h) (And.intro rfl True.intro)
  · refine gx_aload_n 0 dX3_nextStep_9 rfl rfl ?_
    refine gx_callV (ci := 3) (bc := 0) (bs := 0) (mc := 0) (ms := 0) (em' := (fun _ : Unit => none)) [] kc_RX3_32 rfl dX3_nextStep_10 rfl rfl (gx_w8 rfl) (fun x q => (gx_isO_of (by unfold fX3_dropOldest at q; exact q)).2) (fun _ _ q => okX3_dropOldest d q) (fun u3 h2 => ?_)
    exact gx_sub (gX3_nextStep_13 v0 h2) (And.intro rfl True.intro)
theorem okX3_nextStep {E : gx_Env} (d : Nat) {v0 : Nat} {h : gx_H} {r : Nat} {h1 : gx_H} (q : fX3_nextStep v0 h = some (r, h1)) : gx_M E yX3_nextStep cX3_nextStep 2 (some (.object "SnakeLadders$Step")) (d + 1) 0 0 [.ref v0] h ((fun x : Nat => some (.ref x)) r) h1 := gx_meth (y := yX3_nextStep) (cc := cX3_nextStep) (nL := 2) (em := (fun x : Nat => some (.ref x))) (ini := false) [.ref v0] (by decide) (by simp [gx_sl]) (fun q => by cases q) (geX3_nextStep v0 h) q
theorem dX3_takeBack_0 : decode cX3_takeBack 0 = .ok (.aload_n 0, 1) := by decide +kernel
theorem dX3_takeBack_1 : decode cX3_takeBack 1 = .ok (.getfield 9, 3) := by decide +kernel
theorem dX3_takeBack_4 : decode cX3_takeBack 4 = .ok (.ifCond .le 26, 3) := by decide +kernel
theorem dX3_takeBack_7 : decode cX3_takeBack 7 = .ok (.aload_n 0, 1) := by decide +kernel
theorem dX3_takeBack_8 : decode cX3_takeBack 8 = .ok (.dup, 1) := by decide +kernel
theorem dX3_takeBack_9 : decode cX3_takeBack 9 = .ok (.getfield 9, 3) := by decide +kernel
theorem dX3_takeBack_12 : decode cX3_takeBack 12 = .ok (.iconst 1, 1) := by decide +kernel
theorem dX3_takeBack_13 : decode cX3_takeBack 13 = .ok (.isub, 1) := by decide +kernel
theorem dX3_takeBack_14 : decode cX3_takeBack 14 = .ok (.putfield 9, 3) := by decide +kernel
theorem dX3_takeBack_17 : decode cX3_takeBack 17 = .ok (.aload_n 1, 1) := by decide +kernel
theorem dX3_takeBack_18 : decode cX3_takeBack 18 = .ok (.aload_n 0, 1) := by decide +kernel
theorem dX3_takeBack_19 : decode cX3_takeBack 19 = .ok (.getfield 19, 3) := by decide +kernel
theorem dX3_takeBack_22 : decode cX3_takeBack 22 = .ok (.aload_n 0, 1) := by decide +kernel
theorem dX3_takeBack_23 : decode cX3_takeBack 23 = .ok (.getfield 9, 3) := by decide +kernel
theorem dX3_takeBack_26 : decode cX3_takeBack 26 = .ok (.aaload, 1) := by decide +kernel
theorem dX3_takeBack_27 : decode cX3_takeBack 27 = .ok (.invokevirtual 35, 3) := by decide +kernel
theorem dX3_takeBack_30 : decode cX3_takeBack 30 = .ok (.return_, 1) := by decide +kernel
def fX3_takeBack_30 (h : gx_H) : Option (Unit × gx_H) :=
  some ((), h)
def fX3_takeBack (v0 : Nat) (v1 : Nat) (h : gx_H) : Option (Unit × gx_H) :=
  (gx_isO h v0 3).bind fun _ =>
  (gx_fI h v0 3 0).bind fun x1 =>
  if x1 ≤ 0 then
    fX3_takeBack_30 h
  else
    (gx_fI h v0 3 0).bind fun x2 =>
    (gx_pF h v0 3 0 (.int (x2 - (1 : Int32)))).bind fun h3 =>
    (gx_fR h3 v0 3 1).bind fun a4 =>
    (gx_fI h3 v0 3 0).bind fun x5 =>
    (gx_aR 3 h3 a4 x5).bind fun a6 =>
    gx_bd (fX0_takeBack v1 a6 h3) fun u8 h7 =>
    fX3_takeBack_30 h7
set_option maxRecDepth 100000 in
set_option maxHeartbeats 4000000 in
theorem gX3_takeBack_30 {E : gx_Env} {d : Nat}  : ∀  (h : gx_H), gx_G E RX3 cX3_takeBack 2 none false (d + 1) 0 0 30 [none, none] [] h (fun _ : Unit => none) (fX3_takeBack_30 h) := by
  intro  h
  unfold fX3_takeBack_30
  exact gx_vret dX3_takeBack_30 rfl
set_option maxRecDepth 100000 in
set_option maxHeartbeats 4000000 in
theorem geX3_takeBack {E : gx_Env} {d : Nat} (v0 : Nat) (v1 : Nat) (h : gx_H) : gx_G E RX3 cX3_takeBack 2 none false (d + 1) 0 0 0 [some (.ref v0), some (.ref v1)] [] h (fun _ : Unit => none) (fX3_takeBack v0 v1 h) := by
  unfold fX3_takeBack
  refine gx_bind fun _ _ => ?_
  refine gx_aload_n 0 dX3_takeBack_0 rfl rfl ?_
  refine gx_getI kf_RX3_9 dX3_takeBack_1 (fun x1 => ?_)
  refine gx_if_le 30 dX3_takeBack_4 (by decide) (fun _ => ?_) (fun _ => ?_)
  · exact gx_sub (gX3_takeBack_30 h) True.intro
  · refine gx_aload_n 0 dX3_takeBack_7 rfl rfl ?_
    refine gx_dup dX3_takeBack_8 rfl ?_
    refine gx_getI kf_RX3_9 dX3_takeBack_9 (fun x2 => ?_)
    refine gx_iconst (1 : Int32) dX3_takeBack_12 (by decide) ?_
    refine gx_isub dX3_takeBack_13 ?_
    refine gx_putI kp_RX3_9 (fun q => by cases q) dX3_takeBack_14 (fun h3 => ?_)
    refine gx_aload_n 1 dX3_takeBack_17 rfl rfl ?_
    refine gx_aload_n 0 dX3_takeBack_18 rfl rfl ?_
    refine gx_getR kf_RX3_19 dX3_takeBack_19 (fun a4 => ?_)
    refine gx_aload_n 0 dX3_takeBack_22 rfl rfl ?_
    refine gx_getI kf_RX3_9 dX3_takeBack_23 (fun x5 => ?_)
    refine gx_aald3 dX3_takeBack_26 (fun a6 => ?_)
    refine gx_callV (ci := 0) (bc := 0) (bs := 0) (mc := 0) (ms := 0) (em' := (fun _ : Unit => none)) [.ref a6] kc_RX3_35 rfl dX3_takeBack_27 rfl rfl (gx_w8 rfl) (fun x q => (gx_isO_of (by unfold fX0_takeBack at q; exact q)).2) (fun _ _ q => okX0_takeBack d q) (fun u8 h7 => ?_)
    exact gx_sub (gX3_takeBack_30 h7) True.intro
theorem okX3_takeBack {E : gx_Env} (d : Nat) {v0 : Nat} {v1 : Nat} {h : gx_H} {r : Unit} {h1 : gx_H} (q : fX3_takeBack v0 v1 h = some (r, h1)) : gx_M E yX3_takeBack cX3_takeBack 2 none (d + 1) 0 0 [.ref v0, .ref v1] h ((fun _ : Unit => none) r) h1 := gx_meth (y := yX3_takeBack) (cc := cX3_takeBack) (nL := 2) (em := (fun _ : Unit => none)) (ini := false) [.ref v0, .ref v1] (by decide) (by simp [gx_sl]) (fun q => by cases q) (geX3_takeBack v0 v1 h) q
theorem dX5_init_0 : decode cX5_init 0 = .ok (.aload_n 0, 1) := by decide +kernel
theorem dX5_init_1 : decode cX5_init 1 = .ok (.invokespecial 3, 3) := by decide +kernel
theorem dX5_init_4 : decode cX5_init 4 = .ok (.aload_n 0, 1) := by decide +kernel
theorem dX5_init_5 : decode cX5_init 5 = .ok (.new 9, 3) := by decide +kernel
theorem dX5_init_8 : decode cX5_init 8 = .ok (.dup, 1) := by decide +kernel
theorem dX5_init_9 : decode cX5_init 9 = .ok (.invokespecial 11, 3) := by decide +kernel
theorem dX5_init_12 : decode cX5_init 12 = .ok (.putfield 12, 3) := by decide +kernel
theorem dX5_init_15 : decode cX5_init 15 = .ok (.aload_n 0, 1) := by decide +kernel
theorem dX5_init_16 : decode cX5_init 16 = .ok (.iconst 5, 1) := by decide +kernel
theorem dX5_init_17 : decode cX5_init 17 = .ok (.invokestatic 18, 3) := by decide +kernel
theorem dX5_init_20 : decode cX5_init 20 = .ok (.putfield 24, 3) := by decide +kernel
theorem dX5_init_23 : decode cX5_init 23 = .ok (.aload_n 0, 1) := by decide +kernel
theorem dX5_init_24 : decode cX5_init 24 = .ok (.bipush 41, 2) := by decide +kernel
theorem dX5_init_26 : decode cX5_init 26 = .ok (.newarray .int, 2) := by decide +kernel
theorem dX5_init_28 : decode cX5_init 28 = .ok (.putfield 28, 3) := by decide +kernel
theorem dX5_init_31 : decode cX5_init 31 = .ok (.aload_n 0, 1) := by decide +kernel
theorem dX5_init_32 : decode cX5_init 32 = .ok (.iconst 5, 1) := by decide +kernel
theorem dX5_init_33 : decode cX5_init 33 = .ok (.newarray .int, 2) := by decide +kernel
theorem dX5_init_35 : decode cX5_init 35 = .ok (.putfield 32, 3) := by decide +kernel
theorem dX5_init_38 : decode cX5_init 38 = .ok (.aload_n 0, 1) := by decide +kernel
theorem dX5_init_39 : decode cX5_init 39 = .ok (.bipush 36, 2) := by decide +kernel
theorem dX5_init_41 : decode cX5_init 41 = .ok (.newarray .int, 2) := by decide +kernel
theorem dX5_init_43 : decode cX5_init 43 = .ok (.putfield 35, 3) := by decide +kernel
theorem dX5_init_46 : decode cX5_init 46 = .ok (.aload_n 0, 1) := by decide +kernel
theorem dX5_init_47 : decode cX5_init 47 = .ok (.bipush 36, 2) := by decide +kernel
theorem dX5_init_49 : decode cX5_init 49 = .ok (.newarray .int, 2) := by decide +kernel
theorem dX5_init_51 : decode cX5_init 51 = .ok (.putfield 38, 3) := by decide +kernel
theorem dX5_init_54 : decode cX5_init 54 = .ok (.aload_n 0, 1) := by decide +kernel
theorem dX5_init_55 : decode cX5_init 55 = .ok (.iconst (-1), 1) := by decide +kernel
theorem dX5_init_56 : decode cX5_init 56 = .ok (.putfield 41, 3) := by decide +kernel
theorem dX5_init_59 : decode cX5_init 59 = .ok (.aload_n 0, 1) := by decide +kernel
theorem dX5_init_60 : decode cX5_init 60 = .ok (.iconst (-1), 1) := by decide +kernel
theorem dX5_init_61 : decode cX5_init 61 = .ok (.putfield 45, 3) := by decide +kernel
theorem dX5_init_64 : decode cX5_init 64 = .ok (.return_, 1) := by decide +kernel
def fX5_init (v0 : Nat) (h : gx_H) : Option (Unit × gx_H) :=
  gx_let (gx_new (.inr (0, [.int 0, .int 0, .int 0, .int 0, .null, .null, .null, .null, .null, .null, .null])) h) fun h1 =>
  gx_bd (fX0_init h.1 h1) fun u3 h2 =>
  (gx_pF h2 v0 4 0 (.ref h.1)).bind fun h4 =>
  gx_bd (fX3_manySteps (5 : Int32) h4) fun a6 h5 =>
  (gx_pF h5 v0 4 1 (.ref a6)).bind fun h7 =>
  gx_let (gx_new (.inl (0, 41, .inl (fun _ => 0))) h7) fun h8 =>
  (gx_pF h8 v0 4 2 (.ref h7.1)).bind fun h9 =>
  gx_let (gx_new (.inl (0, 5, .inl (fun _ => 0))) h9) fun h10 =>
  (gx_pF h10 v0 4 3 (.ref h9.1)).bind fun h11 =>
  gx_let (gx_new (.inl (0, 36, .inl (fun _ => 0))) h11) fun h12 =>
  (gx_pF h12 v0 4 4 (.ref h11.1)).bind fun h13 =>
  gx_let (gx_new (.inl (0, 36, .inl (fun _ => 0))) h13) fun h14 =>
  (gx_pF h14 v0 4 5 (.ref h13.1)).bind fun h15 =>
  (gx_pF h15 v0 4 6 (.int (-1 : Int32))).bind fun h16 =>
  (gx_pF h16 v0 4 7 (.int (-1 : Int32))).bind fun h17 =>
  some ((), h17)
set_option maxRecDepth 100000 in
set_option maxHeartbeats 4000000 in
theorem geX5_init {E : gx_Env} {d : Nat} (v0 : Nat) (h : gx_H) : gx_G E RX5 cX5_init 1 none true (d + 3) 22 218 0 [some (.ref v0)] [] h (fun _ : Unit => none) (fX5_init v0 h) := by
  unfold fX5_init
  refine gx_aload_n 0 dX5_init_0 rfl rfl ?_
  refine gx_obj kk_RX5_3 ko_i ko_c dX5_init_1 (by decide) ?_
  refine gx_aload_n 0 dX5_init_4 rfl rfl ?_
  refine gx_newO (bc := 21) (bs := 207) kn_RX5_9 rfl dX5_init_5 ?_
  refine gx_letG ?_
  generalize (gx_new (.inr (0, [.int 0, .int 0, .int 0, .int 0, .null, .null, .null, .null, .null, .null, .null])) h) = h1
  refine gx_dup dX5_init_8 rfl ?_
  refine gx_callIN (bc := 14) (bs := 171) (mc := 7) (ms := 36) (em' := (fun _ : Unit => none)) [] kc_RX5_11 dX5_init_9 rfl rfl (gx_w8 rfl) (fun _ _ q => okX0_init (d + 1) q) (fun u3 h2 => ?_)
  refine gx_putO kp_RX5_12 (fun _ => rfl) dX5_init_12 (fun h4 => ?_)
  refine gx_aload_n 0 dX5_init_15 rfl rfl ?_
  refine gx_iconst (5 : Int32) dX5_init_16 (by decide) ?_
  refine gx_callS (bc := 4) (bs := 118) (mc := 10) (ms := 53) (em' := (fun x : Nat => some (.ref x))) [.int (5 : Int32)] kc_RX5_18 dX5_init_17 rfl rfl (gx_w8 rfl) (fun _ _ q => okX3_manySteps d q) (fun a6 h5 => ?_)
  refine gx_putA kp_RX5_24 (fun _ => rfl) dX5_init_20 (fun h7 => ?_)
  refine gx_aload_n 0 dX5_init_23 rfl rfl ?_
  refine gx_bipush (41 : Int32) dX5_init_24 (by decide) ?_
  refine gx_newA0 (bc := 3) (bs := 77) 41 ka_int dX5_init_26 (by decide) (by decide) (by decide) ?_
  refine gx_letG ?_
  generalize (gx_new (.inl (0, 41, .inl (fun _ => 0))) h7) = h8
  refine gx_putA kp_RX5_28 (fun _ => rfl) dX5_init_28 (fun h9 => ?_)
  refine gx_aload_n 0 dX5_init_31 rfl rfl ?_
  refine gx_iconst (5 : Int32) dX5_init_32 (by decide) ?_
  refine gx_newA0 (bc := 2) (bs := 72) 5 ka_int dX5_init_33 (by decide) (by decide) (by decide) ?_
  refine gx_letG ?_
  generalize (gx_new (.inl (0, 5, .inl (fun _ => 0))) h9) = h10
  refine gx_putA kp_RX5_32 (fun _ => rfl) dX5_init_35 (fun h11 => ?_)
  refine gx_aload_n 0 dX5_init_38 rfl rfl ?_
  refine gx_bipush (36 : Int32) dX5_init_39 (by decide) ?_
  refine gx_newA0 (bc := 1) (bs := 36) 36 ka_int dX5_init_41 (by decide) (by decide) (by decide) ?_
  refine gx_letG ?_
  generalize (gx_new (.inl (0, 36, .inl (fun _ => 0))) h11) = h12
  refine gx_putA kp_RX5_35 (fun _ => rfl) dX5_init_43 (fun h13 => ?_)
  refine gx_aload_n 0 dX5_init_46 rfl rfl ?_
  refine gx_bipush (36 : Int32) dX5_init_47 (by decide) ?_
  refine gx_newA0 (bc := 0) (bs := 0) 36 ka_int dX5_init_49 (by decide) (by decide) (by decide) ?_
  refine gx_letG ?_
  generalize (gx_new (.inl (0, 36, .inl (fun _ => 0))) h13) = h14
  refine gx_putA kp_RX5_38 (fun _ => rfl) dX5_init_51 (fun h15 => ?_)
  refine gx_aload_n 0 dX5_init_54 rfl rfl ?_
  refine gx_iconst (-1 : Int32) dX5_init_55 (by decide) ?_
  refine gx_putI kp_RX5_41 (fun _ => rfl) dX5_init_56 (fun h16 => ?_)
  refine gx_aload_n 0 dX5_init_59 rfl rfl ?_
  refine gx_iconst (-1 : Int32) dX5_init_60 (by decide) ?_
  refine gx_putI kp_RX5_45 (fun _ => rfl) dX5_init_61 (fun h17 => ?_)
  exact gx_vret dX5_init_64 rfl
theorem okX5_init {E : gx_Env} (d : Nat) {v0 : Nat} {h : gx_H} {r : Unit} {h1 : gx_H} (q : fX5_init v0 h = some (r, h1)) : gx_M E yX5_init cX5_init 1 none (d + 3) 22 218 [.ref v0] h ((fun _ : Unit => none) r) h1 := gx_meth (y := yX5_init) (cc := cX5_init) (nL := 1) (em := (fun _ : Unit => none)) (ini := true) [.ref v0] (by decide) (by simp [gx_sl]) (fun _ => rfl) (geX5_init v0 h) q
theorem dX5_findRow_0 : decode cX5_findRow 0 = .ok (.aload_n 0, 1) := by decide +kernel
theorem dX5_findRow_1 : decode cX5_findRow 1 = .ok (.getfield 12, 3) := by decide +kernel
theorem dX5_findRow_4 : decode cX5_findRow 4 = .ok (.iload_n 1, 1) := by decide +kernel
theorem dX5_findRow_5 : decode cX5_findRow 5 = .ok (.invokevirtual 60, 3) := by decide +kernel
theorem dX5_findRow_8 : decode cX5_findRow 8 = .ok (.ifCond .eq 14, 3) := by decide +kernel
theorem dX5_findRow_11 : decode cX5_findRow 11 = .ok (.iload_n 2, 1) := by decide +kernel
theorem dX5_findRow_12 : decode cX5_findRow 12 = .ok (.iload_n 3, 1) := by decide +kernel
theorem dX5_findRow_13 : decode cX5_findRow 13 = .ok (.if_icmp .ne 7, 3) := by decide +kernel
theorem dX5_findRow_16 : decode cX5_findRow 16 = .ok (.iconst 1, 1) := by decide +kernel
theorem dX5_findRow_17 : decode cX5_findRow 17 = .ok (.goto 4, 3) := by decide +kernel
theorem dX5_findRow_20 : decode cX5_findRow 20 = .ok (.iconst 0, 1) := by decide +kernel
theorem dX5_findRow_21 : decode cX5_findRow 21 = .ok (.ireturn, 1) := by decide +kernel
theorem dX5_findRow_22 : decode cX5_findRow 22 = .ok (.iload_n 2, 1) := by decide +kernel
theorem dX5_findRow_23 : decode cX5_findRow 23 = .ok (.iload_n 3, 1) := by decide +kernel
theorem dX5_findRow_24 : decode cX5_findRow 24 = .ok (.if_icmp .ge 8, 3) := by decide +kernel
theorem dX5_findRow_27 : decode cX5_findRow 27 = .ok (.iload_n 2, 1) := by decide +kernel
theorem dX5_findRow_28 : decode cX5_findRow 28 = .ok (.iconst 5, 1) := by decide +kernel
theorem dX5_findRow_29 : decode cX5_findRow 29 = .ok (.if_icmp .lt 5, 3) := by decide +kernel
theorem dX5_findRow_32 : decode cX5_findRow 32 = .ok (.iconst 0, 1) := by decide +kernel
theorem dX5_findRow_33 : decode cX5_findRow 33 = .ok (.ireturn, 1) := by decide +kernel
theorem dX5_findRow_34 : decode cX5_findRow 34 = .ok (.iconst 1, 1) := by decide +kernel
theorem dX5_findRow_35 : decode cX5_findRow 35 = .ok (.istore 4, 2) := by decide +kernel
theorem dX5_findRow_37 : decode cX5_findRow 37 = .ok (.iload 4, 2) := by decide +kernel
theorem dX5_findRow_39 : decode cX5_findRow 39 = .ok (.aload_n 0, 1) := by decide +kernel
theorem dX5_findRow_40 : decode cX5_findRow 40 = .ok (.getfield 12, 3) := by decide +kernel
theorem dX5_findRow_43 : decode cX5_findRow 43 = .ok (.getfield 64, 3) := by decide +kernel
theorem dX5_findRow_46 : decode cX5_findRow 46 = .ok (.if_icmp .gt 64, 3) := by decide +kernel
theorem dX5_findRow_49 : decode cX5_findRow 49 = .ok (.aload_n 0, 1) := by decide +kernel
theorem dX5_findRow_50 : decode cX5_findRow 50 = .ok (.getfield 32, 3) := by decide +kernel
theorem dX5_findRow_53 : decode cX5_findRow 53 = .ok (.iload_n 2, 1) := by decide +kernel
theorem dX5_findRow_54 : decode cX5_findRow 54 = .ok (.iload 4, 2) := by decide +kernel
theorem dX5_findRow_56 : decode cX5_findRow 56 = .ok (.iastore, 1) := by decide +kernel
theorem dX5_findRow_57 : decode cX5_findRow 57 = .ok (.aload_n 0, 1) := by decide +kernel
theorem dX5_findRow_58 : decode cX5_findRow 58 = .ok (.getfield 12, 3) := by decide +kernel
theorem dX5_findRow_61 : decode cX5_findRow 61 = .ok (.iload_n 1, 1) := by decide +kernel
theorem dX5_findRow_62 : decode cX5_findRow 62 = .ok (.iload 4, 2) := by decide +kernel
theorem dX5_findRow_64 : decode cX5_findRow 64 = .ok (.aload_n 0, 1) := by decide +kernel
theorem dX5_findRow_65 : decode cX5_findRow 65 = .ok (.getfield 24, 3) := by decide +kernel
theorem dX5_findRow_68 : decode cX5_findRow 68 = .ok (.iload_n 2, 1) := by decide +kernel
theorem dX5_findRow_69 : decode cX5_findRow 69 = .ok (.aaload, 1) := by decide +kernel
theorem dX5_findRow_70 : decode cX5_findRow 70 = .ok (.invokevirtual 67, 3) := by decide +kernel
theorem dX5_findRow_73 : decode cX5_findRow 73 = .ok (.aload_n 0, 1) := by decide +kernel
theorem dX5_findRow_74 : decode cX5_findRow 74 = .ok (.iload_n 1, 1) := by decide +kernel
theorem dX5_findRow_75 : decode cX5_findRow 75 = .ok (.iload_n 2, 1) := by decide +kernel
theorem dX5_findRow_76 : decode cX5_findRow 76 = .ok (.iconst 1, 1) := by decide +kernel
theorem dX5_findRow_77 : decode cX5_findRow 77 = .ok (.iadd, 1) := by decide +kernel
theorem dX5_findRow_78 : decode cX5_findRow 78 = .ok (.iload_n 3, 1) := by decide +kernel
theorem dX5_findRow_79 : decode cX5_findRow 79 = .ok (.invokestatic 52, 3) := by decide +kernel
theorem dX5_findRow_82 : decode cX5_findRow 82 = .ok (.istore 5, 2) := by decide +kernel
theorem dX5_findRow_84 : decode cX5_findRow 84 = .ok (.aload_n 0, 1) := by decide +kernel
theorem dX5_findRow_85 : decode cX5_findRow 85 = .ok (.getfield 12, 3) := by decide +kernel
theorem dX5_findRow_88 : decode cX5_findRow 88 = .ok (.aload_n 0, 1) := by decide +kernel
theorem dX5_findRow_89 : decode cX5_findRow 89 = .ok (.getfield 24, 3) := by decide +kernel
theorem dX5_findRow_92 : decode cX5_findRow 92 = .ok (.iload_n 2, 1) := by decide +kernel
theorem dX5_findRow_93 : decode cX5_findRow 93 = .ok (.aaload, 1) := by decide +kernel
theorem dX5_findRow_94 : decode cX5_findRow 94 = .ok (.invokevirtual 71, 3) := by decide +kernel
theorem dX5_findRow_97 : decode cX5_findRow 97 = .ok (.iload 5, 2) := by decide +kernel
theorem dX5_findRow_99 : decode cX5_findRow 99 = .ok (.ifCond .eq 5, 3) := by decide +kernel
theorem dX5_findRow_102 : decode cX5_findRow 102 = .ok (.iconst 1, 1) := by decide +kernel
theorem dX5_findRow_103 : decode cX5_findRow 103 = .ok (.ireturn, 1) := by decide +kernel
theorem dX5_findRow_104 : decode cX5_findRow 104 = .ok (.iinc 4 1, 3) := by decide +kernel
theorem dX5_findRow_107 : decode cX5_findRow 107 = .ok (.goto (-70), 3) := by decide +kernel
theorem dX5_findRow_110 : decode cX5_findRow 110 = .ok (.iconst 0, 1) := by decide +kernel
theorem dX5_findRow_111 : decode cX5_findRow 111 = .ok (.ireturn, 1) := by decide +kernel
def fX5_findRow_21 (kr : Nat → Int32 → Int32 → Int32 → gx_H → Option (Int32 × gx_H)) (s0 : Int32) (h : gx_H) : Option (Int32 × gx_H) :=
  gx_ret .boolean s0 h
def fX5_findRow_32 (kr : Nat → Int32 → Int32 → Int32 → gx_H → Option (Int32 × gx_H)) (h : gx_H) : Option (Int32 × gx_H) :=
  gx_ret .boolean (0 : Int32) h
def bX5_findRow_37 (kr : Nat → Int32 → Int32 → Int32 → gx_H → Option (Int32 × gx_H)) (k37 : Nat → Int32 → Int32 → Int32 → Int32 → gx_H → Option (Int32 × gx_H)) (v0 : Nat) (v1 : Int32) (v2 : Int32) (v3 : Int32) (v4 : Int32) (h : gx_H) : Option (Int32 × gx_H) :=
  (gx_fR h v0 4 0).bind fun a4 =>
  (gx_fI h a4 0 1).bind fun x5 =>
  if x5 < v4 then
    gx_ret .boolean (0 : Int32) h
  else
    (gx_fR h v0 4 3).bind fun a6 =>
    (gx_sI 0 h a6 v2 v4).bind fun h7 =>
    (gx_fR h7 v0 4 0).bind fun a8 =>
    (gx_fR h7 v0 4 1).bind fun a9 =>
    (gx_aR 3 h7 a9 v2).bind fun a10 =>
    gx_bd (fX0_move a8 v1 v4 a10 h7) fun u12 h11 =>
    gx_bd (kr v0 v1 (v2 + (1 : Int32)) v3 h11) fun x14 h13 =>
    (gx_fR h13 v0 4 0).bind fun a15 =>
    (gx_fR h13 v0 4 1).bind fun a16 =>
    (gx_aR 3 h13 a16 v2).bind fun a17 =>
    gx_bd (fX0_takeBack a15 a17 h13) fun u19 h18 =>
    if x14 = 0 then
      k37 v0 v1 v2 v3 (v4 + (1 : Int32)) h18
    else
      gx_ret .boolean (1 : Int32) h18
def fX5_findRow_37 (kr : Nat → Int32 → Int32 → Int32 → gx_H → Option (Int32 × gx_H)) : Nat → Nat → Int32 → Int32 → Int32 → Int32 → gx_H → Option (Int32 × gx_H)
  | 0 => fun _ _ _ _ _ _ => none
  | n + 1 => bX5_findRow_37 kr (fX5_findRow_37 kr n)
def eX5_findRow (kr : Nat → Int32 → Int32 → Int32 → gx_H → Option (Int32 × gx_H)) (v0 : Nat) (v1 : Int32) (v2 : Int32) (v3 : Int32) (h : gx_H) : Option (Int32 × gx_H) :=
  (gx_fR h v0 4 0).bind fun a1 =>
  gx_bd (fX0_isHome a1 v1 h) fun x3 h2 =>
  if x3 = 0 then
    if v3 ≤ v2 then
      fX5_findRow_32 kr h2
    else
      if v2 < (5 : Int32) then
        fX5_findRow_37 kr gx_N v0 v1 v2 v3 (1 : Int32) h2
      else
        fX5_findRow_32 kr h2
  else
    if v2 = v3 then
      fX5_findRow_21 kr (1 : Int32) h2
    else
      fX5_findRow_21 kr (0 : Int32) h2
def fX5_findRow : Nat → Nat → Int32 → Int32 → Int32 → gx_H → Option (Int32 × gx_H)
  | 0 => fun _ _ _ _ _ => none
  | n + 1 => eX5_findRow (fX5_findRow n)
set_option maxRecDepth 100000 in
set_option maxHeartbeats 4000000 in
theorem gX5_findRow_21 {E : gx_Env} {d : Nat} (kr : Nat → Int32 → Int32 → Int32 → gx_H → Option (Int32 × gx_H)) (hkr : ∀ (v0 : Nat) (v1 : Int32) (v2 : Int32) (v3 : Int32) (h : gx_H) (r : Int32) (h1 : gx_H), kr v0 v1 v2 v3 h = some (r, h1) → gx_M E yX5_findRow cX5_findRow 6 (some .boolean) (d + 3) 0 0 [.ref v0, .int v1, .int v2, .int v3] h ((fun x : Int32 => some (.int x)) r) h1)  : ∀ (s0 : Int32) (h : gx_H), gx_G E RX5 cX5_findRow 6 (some .boolean) false (d + 4) 0 0 21 [none, none, none, none, none, none] [.int s0] h (fun x : Int32 => some (.int x)) (fX5_findRow_21 kr s0 h) := by
  intro s0 h
  unfold fX5_findRow_21
  exact gx_zret dX5_findRow_21 rfl
set_option maxRecDepth 100000 in
set_option maxHeartbeats 4000000 in
theorem gX5_findRow_32 {E : gx_Env} {d : Nat} (kr : Nat → Int32 → Int32 → Int32 → gx_H → Option (Int32 × gx_H)) (hkr : ∀ (v0 : Nat) (v1 : Int32) (v2 : Int32) (v3 : Int32) (h : gx_H) (r : Int32) (h1 : gx_H), kr v0 v1 v2 v3 h = some (r, h1) → gx_M E yX5_findRow cX5_findRow 6 (some .boolean) (d + 3) 0 0 [.ref v0, .int v1, .int v2, .int v3] h ((fun x : Int32 => some (.int x)) r) h1)  : ∀  (h : gx_H), gx_G E RX5 cX5_findRow 6 (some .boolean) false (d + 4) 0 0 32 [none, none, none, none, none, none] [] h (fun x : Int32 => some (.int x)) (fX5_findRow_32 kr h) := by
  intro  h
  unfold fX5_findRow_32
  refine gx_iconst (0 : Int32) dX5_findRow_32 (by decide) ?_
  exact gx_zret dX5_findRow_33 rfl
set_option maxRecDepth 100000 in
set_option maxHeartbeats 4000000 in
theorem gbX5_findRow_37 {E : gx_Env} {d : Nat} (kr : Nat → Int32 → Int32 → Int32 → gx_H → Option (Int32 × gx_H)) (hkr : ∀ (v0 : Nat) (v1 : Int32) (v2 : Int32) (v3 : Int32) (h : gx_H) (r : Int32) (h1 : gx_H), kr v0 v1 v2 v3 h = some (r, h1) → gx_M E yX5_findRow cX5_findRow 6 (some .boolean) (d + 3) 0 0 [.ref v0, .int v1, .int v2, .int v3] h ((fun x : Int32 => some (.int x)) r) h1)  (k37 : Nat → Int32 → Int32 → Int32 → Int32 → gx_H → Option (Int32 × gx_H)) (hk37 : ∀ (v0 : Nat) (v1 : Int32) (v2 : Int32) (v3 : Int32) (v4 : Int32) (h : gx_H), gx_G E RX5 cX5_findRow 6 (some .boolean) false (d + 4) 0 0 37 [some (.ref v0), some (.int v1), some (.int v2), some (.int v3), some (.int v4), none] [] h (fun x : Int32 => some (.int x)) (k37 v0 v1 v2 v3 v4 h))  : ∀ (v0 : Nat) (v1 : Int32) (v2 : Int32) (v3 : Int32) (v4 : Int32) (h : gx_H), gx_G E RX5 cX5_findRow 6 (some .boolean) false (d + 4) 0 0 37 [some (.ref v0), some (.int v1), some (.int v2), some (.int v3), some (.int v4), none] [] h (fun x : Int32 => some (.int x)) (bX5_findRow_37 kr k37 v0 v1 v2 v3 v4 h) := by
  intro v0 v1 v2 v3 v4 h
  unfold bX5_findRow_37
  refine gx_iload dX5_findRow_37 rfl ?_
  refine gx_aload_n 0 dX5_findRow_39 rfl rfl ?_
  refine gx_getR kf_RX5_12 dX5_findRow_40 (fun a4 => ?_)
  refine gx_getI kf_RX5_64 dX5_findRow_43 (fun x5 => ?_)
  refine gx_icmp_gt 110 dX5_findRow_46 (by decide) (fun _ => ?_) (fun _ => ?_)
  · refine gx_iconst (0 : Int32) dX5_findRow_110 (by decide) ?_
    exact gx_zret dX5_findRow_111 rfl
  · refine gx_aload_n 0 dX5_findRow_49 rfl rfl ?_
    refine gx_getR kf_RX5_32 dX5_findRow_50 (fun a6 => ?_)
    refine gx_iload_n 2 dX5_findRow_53 rfl rfl ?_
    refine gx_iload dX5_findRow_54 rfl ?_
    refine gx_iast dX5_findRow_56 (fun h7 => ?_)
    refine gx_aload_n 0 dX5_findRow_57 rfl rfl ?_
    refine gx_getR kf_RX5_12 dX5_findRow_58 (fun a8 => ?_)
    refine gx_iload_n 1 dX5_findRow_61 rfl rfl ?_
    refine gx_iload dX5_findRow_62 rfl ?_
    refine gx_aload_n 0 dX5_findRow_64 rfl rfl ?_
    refine gx_getR kf_RX5_24 dX5_findRow_65 (fun a9 => ?_)
    refine gx_iload_n 2 dX5_findRow_68 rfl rfl ?_
    refine gx_aald3 dX5_findRow_69 (fun a10 => ?_)
    refine gx_callV (ci := 0) (bc := 0) (bs := 0) (mc := 0) (ms := 0) (em' := (fun _ : Unit => none)) [.int v1, .int v4, .ref a10] kc_RX5_67 rfl dX5_findRow_70 rfl rfl (gx_w8 rfl) (fun x q => (gx_isO_of (by unfold fX0_move at q; exact q)).2) (fun _ _ q => okX0_move d q) (fun u12 h11 => ?_)
    refine gx_aload_n 0 dX5_findRow_73 rfl rfl ?_
    refine gx_iload_n 1 dX5_findRow_74 rfl rfl ?_
    refine gx_iload_n 2 dX5_findRow_75 rfl rfl ?_
    refine gx_iconst (1 : Int32) dX5_findRow_76 (by decide) ?_
    refine gx_iadd dX5_findRow_77 ?_
    refine gx_iload_n 3 dX5_findRow_78 rfl rfl ?_
    refine gx_callS (bc := 0) (bs := 0) (mc := 0) (ms := 0) (em' := (fun x : Int32 => some (.int x))) [.ref v0, .int v1, .int (v2 + (1 : Int32)), .int v3] kc_RX5_52 dX5_findRow_79 rfl rfl (gx_w8 rfl) (fun _ _ q => hkr _ _ _ _ _ _ _ q) (fun x14 h13 => ?_)
    refine gx_istore [some (.ref v0), some (.int v1), some (.int v2), some (.int v3), some (.int v4), some (.int x14)] dX5_findRow_82 (by decide) rfl ?_
    refine gx_aload_n 0 dX5_findRow_84 rfl rfl ?_
    refine gx_getR kf_RX5_12 dX5_findRow_85 (fun a15 => ?_)
    refine gx_aload_n 0 dX5_findRow_88 rfl rfl ?_
    refine gx_getR kf_RX5_24 dX5_findRow_89 (fun a16 => ?_)
    refine gx_iload_n 2 dX5_findRow_92 rfl rfl ?_
    refine gx_aald3 dX5_findRow_93 (fun a17 => ?_)
    refine gx_callV (ci := 0) (bc := 0) (bs := 0) (mc := 0) (ms := 0) (em' := (fun _ : Unit => none)) [.ref a17] kc_RX5_71 rfl dX5_findRow_94 rfl rfl (gx_w8 rfl) (fun x q => (gx_isO_of (by unfold fX0_takeBack at q; exact q)).2) (fun _ _ q => okX0_takeBack (d + 3) q) (fun u19 h18 => ?_)
    refine gx_iload dX5_findRow_97 rfl ?_
    refine gx_if_eq 104 dX5_findRow_99 (by decide) (fun _ => ?_) (fun _ => ?_)
    · refine gx_iinc (1 : Int32) [some (.ref v0), some (.int v1), some (.int v2), some (.int v3), some (.int (v4 + (1 : Int32))), some (.int x14)] dX5_findRow_104 rfl (by decide) (by decide) rfl ?_
      refine gx_goto 37 dX5_findRow_107 (by decide) ?_
      exact gx_sub (hk37 v0 v1 v2 v3 (v4 + (1 : Int32)) h18) (And.intro rfl (And.intro rfl (And.intro rfl (And.intro rfl (And.intro rfl True.intro)))))
    · refine gx_iconst (1 : Int32) dX5_findRow_102 (by decide) ?_
      exact gx_zret dX5_findRow_103 rfl
set_option maxRecDepth 100000 in
set_option maxHeartbeats 4000000 in
theorem gX5_findRow_37 {E : gx_Env} {d : Nat} (kr : Nat → Int32 → Int32 → Int32 → gx_H → Option (Int32 × gx_H)) (hkr : ∀ (v0 : Nat) (v1 : Int32) (v2 : Int32) (v3 : Int32) (h : gx_H) (r : Int32) (h1 : gx_H), kr v0 v1 v2 v3 h = some (r, h1) → gx_M E yX5_findRow cX5_findRow 6 (some .boolean) (d + 3) 0 0 [.ref v0, .int v1, .int v2, .int v3] h ((fun x : Int32 => some (.int x)) r) h1)  : ∀ (n : Nat) (v0 : Nat) (v1 : Int32) (v2 : Int32) (v3 : Int32) (v4 : Int32) (h : gx_H), gx_G E RX5 cX5_findRow 6 (some .boolean) false (d + 4) 0 0 37 [some (.ref v0), some (.int v1), some (.int v2), some (.int v3), some (.int v4), none] [] h (fun x : Int32 => some (.int x)) (fX5_findRow_37 kr n v0 v1 v2 v3 v4 h) := by
  intro n
  induction n with
  | zero => intro v0 v1 v2 v3 v4 h; exact gx_none
  | succ n ih => exact gbX5_findRow_37 kr hkr  (fX5_findRow_37 kr n) ih
set_option maxRecDepth 100000 in
set_option maxHeartbeats 4000000 in
theorem geX5_findRow {E : gx_Env} {d : Nat} (kr : Nat → Int32 → Int32 → Int32 → gx_H → Option (Int32 × gx_H)) (hkr : ∀ (v0 : Nat) (v1 : Int32) (v2 : Int32) (v3 : Int32) (h : gx_H) (r : Int32) (h1 : gx_H), kr v0 v1 v2 v3 h = some (r, h1) → gx_M E yX5_findRow cX5_findRow 6 (some .boolean) (d + 3) 0 0 [.ref v0, .int v1, .int v2, .int v3] h ((fun x : Int32 => some (.int x)) r) h1) (v0 : Nat) (v1 : Int32) (v2 : Int32) (v3 : Int32) (h : gx_H) : gx_G E RX5 cX5_findRow 6 (some .boolean) false (d + 4) 0 0 0 [some (.ref v0), some (.int v1), some (.int v2), some (.int v3), none, none] [] h (fun x : Int32 => some (.int x)) (eX5_findRow kr v0 v1 v2 v3 h) := by
  unfold eX5_findRow
  refine gx_aload_n 0 dX5_findRow_0 rfl rfl ?_
  refine gx_getR kf_RX5_12 dX5_findRow_1 (fun a1 => ?_)
  refine gx_iload_n 1 dX5_findRow_4 rfl rfl ?_
  refine gx_callV (ci := 0) (bc := 0) (bs := 0) (mc := 0) (ms := 0) (em' := (fun x : Int32 => some (.int x))) [.int v1] kc_RX5_60 rfl dX5_findRow_5 rfl rfl (gx_w8 rfl) (fun x q => (gx_isO_of (by unfold fX0_isHome at q; exact q)).2) (fun _ _ q => okX0_isHome (d + 3) q) (fun x3 h2 => ?_)
  refine gx_if_eq 22 dX5_findRow_8 (by decide) (fun _ => ?_) (fun _ => ?_)
  · refine gx_iload_n 2 dX5_findRow_22 rfl rfl ?_
    refine gx_iload_n 3 dX5_findRow_23 rfl rfl ?_
    refine gx_icmp_ge 32 dX5_findRow_24 (by decide) (fun _ => ?_) (fun _ => ?_)
    · exact gx_sub (gX5_findRow_32 kr hkr h2) True.intro
    · refine gx_iload_n 2 dX5_findRow_27 rfl rfl ?_
      refine gx_iconst (5 : Int32) dX5_findRow_28 (by decide) ?_
      refine gx_icmp_lt 34 dX5_findRow_29 (by decide) (fun _ => ?_) (fun _ => ?_)
      · refine gx_iconst (1 : Int32) dX5_findRow_34 (by decide) ?_
        refine gx_istore [some (.ref v0), some (.int v1), some (.int v2), some (.int v3), some (.int (1 : Int32)), none] dX5_findRow_35 (by decide) rfl ?_
        exact gx_sub (gX5_findRow_37 kr hkr gx_N v0 v1 v2 v3 (1 : Int32) h2) (And.intro rfl (And.intro rfl (And.intro rfl (And.intro rfl (And.intro rfl True.intro)))))
      · exact gx_sub (gX5_findRow_32 kr hkr h2) True.intro
  · refine gx_iload_n 2 dX5_findRow_11 rfl rfl ?_
    refine gx_iload_n 3 dX5_findRow_12 rfl rfl ?_
    refine gx_icmp_ne 20 dX5_findRow_13 (by decide) (fun _ => ?_) (fun _ => ?_)
    · refine gx_iconst (0 : Int32) dX5_findRow_20 (by decide) ?_
      exact gx_sub (gX5_findRow_21 kr hkr (0 : Int32) h2) True.intro
    · refine gx_iconst (1 : Int32) dX5_findRow_16 (by decide) ?_
      refine gx_goto 21 dX5_findRow_17 (by decide) ?_
      exact gx_sub (gX5_findRow_21 kr hkr (1 : Int32) h2) True.intro
theorem okX5_findRow_n {E : gx_Env} : ∀ (N d : Nat) (v0 : Nat) (v1 : Int32) (v2 : Int32) (v3 : Int32) (h : gx_H) (r : Int32) (h1 : gx_H), fX5_findRow N v0 v1 v2 v3 h = some (r, h1) → gx_M E yX5_findRow cX5_findRow 6 (some .boolean) (d + 3 + N) 0 0 [.ref v0, .int v1, .int v2, .int v3] h ((fun x : Int32 => some (.int x)) r) h1
  | 0, d, v0, v1, v2, v3, h, r, h1, q => by cases q
  | N + 1, d, v0, v1, v2, v3, h, r, h1, q => gx_meth (y := yX5_findRow) (cc := cX5_findRow) (nL := 6) (em := (fun x : Int32 => some (.int x))) (ini := false) [.ref v0, .int v1, .int v2, .int v3] (by decide) (by simp [gx_sl]) (fun q => by cases q) (by
    have ih := okX5_findRow_n (E := E) N d
    have e : d + 3 + (N + 1) = (d + N) + 4 := by omega
    have e2 : d + 3 + N = (d + N) + 3 := by omega
    rw [e2] at ih
    rw [e]
    exact geX5_findRow (d := d + N) (fX5_findRow N) ih v0 v1 v2 v3 h) q
theorem okX5_findRow {E : gx_Env} (d : Nat) {v0 : Nat} {v1 : Int32} {v2 : Int32} {v3 : Int32} {h : gx_H} {r : Int32} {h1 : gx_H} (q : fX5_findRow 8 v0 v1 v2 v3 h = some (r, h1)) : gx_M E yX5_findRow cX5_findRow 6 (some .boolean) (d + 11) 0 0 [.ref v0, .int v1, .int v2, .int v3] h ((fun x : Int32 => some (.int x)) r) h1 := okX5_findRow_n 8 d v0 v1 v2 v3 h r h1 q
