theorem dX5_fewest_0 : decode cX5_fewest 0 = .ok (.aload_n 0, 1) := by decide +kernel
theorem dX5_fewest_1 : decode cX5_fewest 1 = .ok (.getfield 12, 3) := by decide +kernel
theorem dX5_fewest_4 : decode cX5_fewest 4 = .ok (.aload_n 1, 1) := by decide +kernel
theorem dX5_fewest_5 : decode cX5_fewest 5 = .ok (.invokevirtual 48, 3) := by decide +kernel
theorem dX5_fewest_8 : decode cX5_fewest 8 = .ok (.iconst 0, 1) := by decide +kernel
theorem dX5_fewest_9 : decode cX5_fewest 9 = .ok (.istore_n 3, 1) := by decide +kernel
theorem dX5_fewest_10 : decode cX5_fewest 10 = .ok (.iload_n 3, 1) := by decide +kernel
theorem dX5_fewest_11 : decode cX5_fewest 11 = .ok (.iconst 5, 1) := by decide +kernel
theorem dX5_fewest_12 : decode cX5_fewest 12 = .ok (.if_icmp .gt 21, 3) := by decide +kernel
theorem dX5_fewest_15 : decode cX5_fewest 15 = .ok (.aload_n 0, 1) := by decide +kernel
theorem dX5_fewest_16 : decode cX5_fewest 16 = .ok (.iload_n 2, 1) := by decide +kernel
theorem dX5_fewest_17 : decode cX5_fewest 17 = .ok (.iconst 0, 1) := by decide +kernel
theorem dX5_fewest_18 : decode cX5_fewest 18 = .ok (.iload_n 3, 1) := by decide +kernel
theorem dX5_fewest_19 : decode cX5_fewest 19 = .ok (.invokestatic 52, 3) := by decide +kernel
theorem dX5_fewest_22 : decode cX5_fewest 22 = .ok (.ifCond .eq 5, 3) := by decide +kernel
theorem dX5_fewest_25 : decode cX5_fewest 25 = .ok (.iload_n 3, 1) := by decide +kernel
theorem dX5_fewest_26 : decode cX5_fewest 26 = .ok (.ireturn, 1) := by decide +kernel
theorem dX5_fewest_27 : decode cX5_fewest 27 = .ok (.iinc 3 1, 3) := by decide +kernel
theorem dX5_fewest_30 : decode cX5_fewest 30 = .ok (.goto (-20), 3) := by decide +kernel
theorem dX5_fewest_33 : decode cX5_fewest 33 = .ok (.iconst (-1), 1) := by decide +kernel
theorem dX5_fewest_34 : decode cX5_fewest 34 = .ok (.ireturn, 1) := by decide +kernel
def bX5_fewest_10 (k10 : Nat → Int32 → Int32 → gx_H → Option (Int32 × gx_H)) (v0 : Nat) (v2 : Int32) (v3 : Int32) (h : gx_H) : Option (Int32 × gx_H) :=
  if (5 : Int32) < v3 then
    some ((-1 : Int32), h)
  else
    gx_bd (fX5_findRow 8 v0 v2 (0 : Int32) v3 h) fun x5 h4 =>
    if x5 = 0 then
      k10 v0 v2 (v3 + (1 : Int32)) h4
    else
      some (v3, h4)
def fX5_fewest_10 : Nat → Nat → Int32 → Int32 → gx_H → Option (Int32 × gx_H)
  | 0 => fun _ _ _ _ => none
  | n + 1 => bX5_fewest_10 (fX5_fewest_10 n)
def fX5_fewest (v0 : Nat) (v1 : Nat) (v2 : Int32) (h : gx_H) : Option (Int32 × gx_H) :=
  (gx_isO h v0 4).bind fun _ =>
  (gx_fR h v0 4 0).bind fun a1 =>
  gx_bd (fX0_copy a1 v1 h) fun u3 h2 =>
  fX5_fewest_10 gx_N v0 v2 (0 : Int32) h2
set_option maxRecDepth 100000 in
set_option maxHeartbeats 4000000 in
theorem gbX5_fewest_10 {E : gx_Env} {d : Nat}  (k10 : Nat → Int32 → Int32 → gx_H → Option (Int32 × gx_H)) (hk10 : ∀ (v0 : Nat) (v2 : Int32) (v3 : Int32) (h : gx_H), gx_G E RX5 cX5_fewest 4 (some .int) false (d + 12) 0 0 10 [some (.ref v0), none, some (.int v2), some (.int v3)] [] h (fun x : Int32 => some (.int x)) (k10 v0 v2 v3 h))  : ∀ (v0 : Nat) (v2 : Int32) (v3 : Int32) (h : gx_H), gx_G E RX5 cX5_fewest 4 (some .int) false (d + 12) 0 0 10 [some (.ref v0), none, some (.int v2), some (.int v3)] [] h (fun x : Int32 => some (.int x)) (bX5_fewest_10 k10 v0 v2 v3 h) := by
  intro v0 v2 v3 h
  unfold bX5_fewest_10
  refine gx_iload_n 3 dX5_fewest_10 rfl rfl ?_
  refine gx_iconst (5 : Int32) dX5_fewest_11 (by decide) ?_
  refine gx_icmp_gt 33 dX5_fewest_12 (by decide) (fun _ => ?_) (fun _ => ?_)
  · refine gx_iconst (-1 : Int32) dX5_fewest_33 (by decide) ?_
    exact gx_iret dX5_fewest_34 rfl
  · refine gx_aload_n 0 dX5_fewest_15 rfl rfl ?_
    refine gx_iload_n 2 dX5_fewest_16 rfl rfl ?_
    refine gx_iconst (0 : Int32) dX5_fewest_17 (by decide) ?_
    refine gx_iload_n 3 dX5_fewest_18 rfl rfl ?_
    refine gx_callS (bc := 0) (bs := 0) (mc := 0) (ms := 0) (em' := (fun x : Int32 => some (.int x))) [.ref v0, .int v2, .int (0 : Int32), .int v3] kc_RX5_52 dX5_fewest_19 rfl rfl (gx_w8 rfl) (fun _ _ q => okX5_findRow d q) (fun x5 h4 => ?_)
    refine gx_if_eq 27 dX5_fewest_22 (by decide) (fun _ => ?_) (fun _ => ?_)
    · refine gx_iinc (1 : Int32) [some (.ref v0), none, some (.int v2), some (.int (v3 + (1 : Int32)))] dX5_fewest_27 rfl (by decide) (by decide) rfl ?_
      refine gx_goto 10 dX5_fewest_30 (by decide) ?_
      exact gx_sub (hk10 v0 v2 (v3 + (1 : Int32)) h4) (And.intro rfl (And.intro rfl (And.intro rfl True.intro)))
    · refine gx_iload_n 3 dX5_fewest_25 rfl rfl ?_
      exact gx_iret dX5_fewest_26 rfl
set_option maxRecDepth 100000 in
set_option maxHeartbeats 4000000 in
theorem gX5_fewest_10 {E : gx_Env} {d : Nat}  : ∀ (n : Nat) (v0 : Nat) (v2 : Int32) (v3 : Int32) (h : gx_H), gx_G E RX5 cX5_fewest 4 (some .int) false (d + 12) 0 0 10 [some (.ref v0), none, some (.int v2), some (.int v3)] [] h (fun x : Int32 => some (.int x)) (fX5_fewest_10 n v0 v2 v3 h) := by
  intro n
  induction n with
  | zero => intro v0 v2 v3 h; exact gx_none
  | succ n ih => exact gbX5_fewest_10  (fX5_fewest_10  n) ih
set_option maxRecDepth 100000 in
set_option maxHeartbeats 4000000 in
theorem geX5_fewest {E : gx_Env} {d : Nat} (v0 : Nat) (v1 : Nat) (v2 : Int32) (h : gx_H) : gx_G E RX5 cX5_fewest 4 (some .int) false (d + 12) 0 0 0 [some (.ref v0), some (.ref v1), some (.int v2), none] [] h (fun x : Int32 => some (.int x)) (fX5_fewest v0 v1 v2 h) := by
  unfold fX5_fewest
  refine gx_bind fun _ _ => ?_
  refine gx_aload_n 0 dX5_fewest_0 rfl rfl ?_
  refine gx_getR kf_RX5_12 dX5_fewest_1 (fun a1 => ?_)
  refine gx_aload_n 1 dX5_fewest_4 rfl rfl ?_
  refine gx_callV (ci := 0) (bc := 0) (bs := 0) (mc := 0) (ms := 0) (em' := (fun _ : Unit => none)) [.ref v1] kc_RX5_48 rfl dX5_fewest_5 rfl rfl (gx_w8 rfl) (fun x q => (gx_isO_of (by unfold fX0_copy at q; exact q)).2) (fun _ _ q => okX0_copy (d + 11) q) (fun u3 h2 => ?_)
  refine gx_iconst (0 : Int32) dX5_fewest_8 (by decide) ?_
  refine gx_istore_n 3 [some (.ref v0), some (.ref v1), some (.int v2), some (.int (0 : Int32))] dX5_fewest_9 rfl (by decide) rfl ?_
  exact gx_sub (gX5_fewest_10 gx_N v0 v2 (0 : Int32) h2) (And.intro rfl (And.intro rfl (And.intro rfl True.intro)))
theorem okX5_fewest {E : gx_Env} (d : Nat) {v0 : Nat} {v1 : Nat} {v2 : Int32} {h : gx_H} {r : Int32} {h1 : gx_H} (q : fX5_fewest v0 v1 v2 h = some (r, h1)) : gx_M E yX5_fewest cX5_fewest 4 (some .int) (d + 12) 0 0 [.ref v0, .ref v1, .int v2] h ((fun x : Int32 => some (.int x)) r) h1 := gx_meth (y := yX5_fewest) (cc := cX5_fewest) (nL := 4) (em := (fun x : Int32 => some (.int x))) (ini := false) [.ref v0, .ref v1, .int v2] (by decide) (by simp [gx_sl]) (fun q => by cases q) (geX5_fewest v0 v1 v2 h) q
theorem dX10_within_0 : decode cX10_within 0 = .ok (.iload_n 0, 1) := by decide +kernel
theorem dX10_within_1 : decode cX10_within 1 = .ok (.iload_n 1, 1) := by decide +kernel
theorem dX10_within_2 : decode cX10_within 2 = .ok (.if_icmp .lt 12, 3) := by decide +kernel
theorem dX10_within_5 : decode cX10_within 5 = .ok (.iload_n 0, 1) := by decide +kernel
theorem dX10_within_6 : decode cX10_within 6 = .ok (.iload_n 2, 1) := by decide +kernel
theorem dX10_within_7 : decode cX10_within 7 = .ok (.if_icmp .gt 7, 3) := by decide +kernel
theorem dX10_within_10 : decode cX10_within 10 = .ok (.iconst 1, 1) := by decide +kernel
theorem dX10_within_11 : decode cX10_within 11 = .ok (.goto 4, 3) := by decide +kernel
theorem dX10_within_14 : decode cX10_within 14 = .ok (.iconst 0, 1) := by decide +kernel
theorem dX10_within_15 : decode cX10_within 15 = .ok (.ireturn, 1) := by decide +kernel
def fX10_within_15 (s0 : Int32) (h : gx_H) : Option (Int32 × gx_H) :=
  gx_ret .boolean s0 h
def fX10_within_14 (h : gx_H) : Option (Int32 × gx_H) :=
  fX10_within_15 (0 : Int32) h
def fX10_within (v0 : Int32) (v1 : Int32) (v2 : Int32) (h : gx_H) : Option (Int32 × gx_H) :=
  if v0 < v1 then
    fX10_within_14 h
  else
    if v2 < v0 then
      fX10_within_14 h
    else
      fX10_within_15 (1 : Int32) h
set_option maxRecDepth 100000 in
set_option maxHeartbeats 4000000 in
theorem gX10_within_15 {E : gx_Env} {d : Nat}  : ∀ (s0 : Int32) (h : gx_H), gx_G E RX10 cX10_within 3 (some .boolean) false d 0 0 15 [none, none, none] [.int s0] h (fun x : Int32 => some (.int x)) (fX10_within_15 s0 h) := by
  intro s0 h
  unfold fX10_within_15
  exact gx_zret dX10_within_15 rfl
set_option maxRecDepth 100000 in
set_option maxHeartbeats 4000000 in
theorem gX10_within_14 {E : gx_Env} {d : Nat}  : ∀  (h : gx_H), gx_G E RX10 cX10_within 3 (some .boolean) false d 0 0 14 [none, none, none] [] h (fun x : Int32 => some (.int x)) (fX10_within_14 h) := by
  intro  h
  unfold fX10_within_14
  refine gx_iconst (0 : Int32) dX10_within_14 (by decide) ?_
  exact gx_sub (gX10_within_15 (0 : Int32) h) True.intro
set_option maxRecDepth 100000 in
set_option maxHeartbeats 4000000 in
theorem geX10_within {E : gx_Env} {d : Nat} (v0 : Int32) (v1 : Int32) (v2 : Int32) (h : gx_H) : gx_G E RX10 cX10_within 3 (some .boolean) false d 0 0 0 [some (.int v0), some (.int v1), some (.int v2)] [] h (fun x : Int32 => some (.int x)) (fX10_within v0 v1 v2 h) := by
  unfold fX10_within
  refine gx_iload_n 0 dX10_within_0 rfl rfl ?_
  refine gx_iload_n 1 dX10_within_1 rfl rfl ?_
  refine gx_icmp_lt 14 dX10_within_2 (by decide) (fun _ => ?_) (fun _ => ?_)
  · exact gx_sub (gX10_within_14 h) True.intro
  · refine gx_iload_n 0 dX10_within_5 rfl rfl ?_
    refine gx_iload_n 2 dX10_within_6 rfl rfl ?_
    refine gx_icmp_gt 14 dX10_within_7 (by decide) (fun _ => ?_) (fun _ => ?_)
    · exact gx_sub (gX10_within_14 h) True.intro
    · refine gx_iconst (1 : Int32) dX10_within_10 (by decide) ?_
      refine gx_goto 15 dX10_within_11 (by decide) ?_
      exact gx_sub (gX10_within_15 (1 : Int32) h) True.intro
theorem okX10_within {E : gx_Env} (d : Nat) {v0 : Int32} {v1 : Int32} {v2 : Int32} {h : gx_H} {r : Int32} {h1 : gx_H} (q : fX10_within v0 v1 v2 h = some (r, h1)) : gx_M E yX10_within cX10_within 3 (some .boolean) d 0 0 [.int v0, .int v1, .int v2] h ((fun x : Int32 => some (.int x)) r) h1 := gx_meth (y := yX10_within) (cc := cX10_within) (nL := 3) (em := (fun x : Int32 => some (.int x))) (ini := false) [.int v0, .int v1, .int v2] (by decide) (by simp [gx_sl]) (fun q => by cases q) (geX10_within v0 v1 v2 h) q
theorem dX5_rowAt_0 : decode cX5_rowAt 0 = .ok (.iload_n 1, 1) := by decide +kernel
theorem dX5_rowAt_1 : decode cX5_rowAt 1 = .ok (.iconst 0, 1) := by decide +kernel
theorem dX5_rowAt_2 : decode cX5_rowAt 2 = .ok (.iconst 4, 1) := by decide +kernel
theorem dX5_rowAt_3 : decode cX5_rowAt 3 = .ok (.invokestatic 56, 3) := by decide +kernel
theorem dX5_rowAt_6 : decode cX5_rowAt 6 = .ok (.ifCond .eq 12, 3) := by decide +kernel
theorem dX5_rowAt_9 : decode cX5_rowAt 9 = .ok (.aload_n 0, 1) := by decide +kernel
theorem dX5_rowAt_10 : decode cX5_rowAt 10 = .ok (.getfield 32, 3) := by decide +kernel
theorem dX5_rowAt_13 : decode cX5_rowAt 13 = .ok (.iload_n 1, 1) := by decide +kernel
theorem dX5_rowAt_14 : decode cX5_rowAt 14 = .ok (.iaload, 1) := by decide +kernel
theorem dX5_rowAt_15 : decode cX5_rowAt 15 = .ok (.goto 4, 3) := by decide +kernel
theorem dX5_rowAt_18 : decode cX5_rowAt 18 = .ok (.iconst (-1), 1) := by decide +kernel
theorem dX5_rowAt_19 : decode cX5_rowAt 19 = .ok (.ireturn, 1) := by decide +kernel
def fX5_rowAt_19 (s0 : Int32) (h : gx_H) : Option (Int32 × gx_H) :=
  some (s0, h)
def fX5_rowAt (v0 : Nat) (v1 : Int32) (h : gx_H) : Option (Int32 × gx_H) :=
  (gx_isO h v0 4).bind fun _ =>
  gx_bd (fX10_within v1 (0 : Int32) (4 : Int32) h) fun x2 h1 =>
  if x2 = 0 then
    fX5_rowAt_19 (-1 : Int32) h1
  else
    (gx_fR h1 v0 4 3).bind fun a3 =>
    (gx_aI 0 h1 a3 v1).bind fun x4 =>
    fX5_rowAt_19 x4 h1
set_option maxRecDepth 100000 in
set_option maxHeartbeats 4000000 in
theorem gX5_rowAt_19 {E : gx_Env} {d : Nat}  : ∀ (s0 : Int32) (h : gx_H), gx_G E RX5 cX5_rowAt 2 (some .int) false (d + 1) 0 0 19 [none, none] [.int s0] h (fun x : Int32 => some (.int x)) (fX5_rowAt_19 s0 h) := by
  intro s0 h
  unfold fX5_rowAt_19
  exact gx_iret dX5_rowAt_19 rfl
set_option maxRecDepth 100000 in
set_option maxHeartbeats 4000000 in
theorem geX5_rowAt {E : gx_Env} {d : Nat} (v0 : Nat) (v1 : Int32) (h : gx_H) : gx_G E RX5 cX5_rowAt 2 (some .int) false (d + 1) 0 0 0 [some (.ref v0), some (.int v1)] [] h (fun x : Int32 => some (.int x)) (fX5_rowAt v0 v1 h) := by
  unfold fX5_rowAt
  refine gx_bind fun _ _ => ?_
  refine gx_iload_n 1 dX5_rowAt_0 rfl rfl ?_
  refine gx_iconst (0 : Int32) dX5_rowAt_1 (by decide) ?_
  refine gx_iconst (4 : Int32) dX5_rowAt_2 (by decide) ?_
  refine gx_callSN (bc := 0) (bs := 0) (mc := 0) (ms := 0) (em' := (fun x : Int32 => some (.int x))) [.int v1, .int (0 : Int32), .int (4 : Int32)] kc_RX5_56 dX5_rowAt_3 rfl rfl (gx_w8 rfl) (fun _ _ q => okX10_within d q) (fun x2 h1 => ?_)
  refine gx_if_eq 18 dX5_rowAt_6 (by decide) (fun _ => ?_) (fun _ => ?_)
  · refine gx_iconst (-1 : Int32) dX5_rowAt_18 (by decide) ?_
    exact gx_sub (gX5_rowAt_19 (-1 : Int32) h1) True.intro
  · refine gx_aload_n 0 dX5_rowAt_9 rfl rfl ?_
    refine gx_getR kf_RX5_32 dX5_rowAt_10 (fun a3 => ?_)
    refine gx_iload_n 1 dX5_rowAt_13 rfl rfl ?_
    refine gx_iald dX5_rowAt_14 (fun x4 => ?_)
    refine gx_goto 19 dX5_rowAt_15 (by decide) ?_
    exact gx_sub (gX5_rowAt_19 x4 h1) True.intro
theorem okX5_rowAt {E : gx_Env} (d : Nat) {v0 : Nat} {v1 : Int32} {h : gx_H} {r : Int32} {h1 : gx_H} (q : fX5_rowAt v0 v1 h = some (r, h1)) : gx_M E yX5_rowAt cX5_rowAt 2 (some .int) (d + 1) 0 0 [.ref v0, .int v1] h ((fun x : Int32 => some (.int x)) r) h1 := gx_meth (y := yX5_rowAt) (cc := cX5_rowAt) (nL := 2) (em := (fun x : Int32 => some (.int x))) (ini := false) [.ref v0, .int v1] (by decide) (by simp [gx_sl]) (fun q => by cases q) (geX5_rowAt v0 v1 h) q
theorem dX10_power_0 : decode cX10_power 0 = .ok (.iconst 1, 1) := by decide +kernel
theorem dX10_power_1 : decode cX10_power 1 = .ok (.istore_n 2, 1) := by decide +kernel
theorem dX10_power_2 : decode cX10_power 2 = .ok (.iconst 0, 1) := by decide +kernel
theorem dX10_power_3 : decode cX10_power 3 = .ok (.istore_n 3, 1) := by decide +kernel
theorem dX10_power_4 : decode cX10_power 4 = .ok (.iload_n 3, 1) := by decide +kernel
theorem dX10_power_5 : decode cX10_power 5 = .ok (.iload_n 1, 1) := by decide +kernel
theorem dX10_power_6 : decode cX10_power 6 = .ok (.if_icmp .ge 13, 3) := by decide +kernel
theorem dX10_power_9 : decode cX10_power 9 = .ok (.iload_n 2, 1) := by decide +kernel
theorem dX10_power_10 : decode cX10_power 10 = .ok (.iload_n 0, 1) := by decide +kernel
theorem dX10_power_11 : decode cX10_power 11 = .ok (.imul, 1) := by decide +kernel
theorem dX10_power_12 : decode cX10_power 12 = .ok (.istore_n 2, 1) := by decide +kernel
theorem dX10_power_13 : decode cX10_power 13 = .ok (.iinc 3 1, 3) := by decide +kernel
theorem dX10_power_16 : decode cX10_power 16 = .ok (.goto (-12), 3) := by decide +kernel
theorem dX10_power_19 : decode cX10_power 19 = .ok (.iload_n 2, 1) := by decide +kernel
theorem dX10_power_20 : decode cX10_power 20 = .ok (.ireturn, 1) := by decide +kernel
def bX10_power_4 (k4 : Int32 → Int32 → Int32 → Int32 → gx_H → Option (Int32 × gx_H)) (v0 : Int32) (v1 : Int32) (v2 : Int32) (v3 : Int32) (h : gx_H) : Option (Int32 × gx_H) :=
  if v1 ≤ v3 then
    some (v2, h)
  else
    k4 v0 v1 (v2 * v0) (v3 + (1 : Int32)) h
def fX10_power_4 : Nat → Int32 → Int32 → Int32 → Int32 → gx_H → Option (Int32 × gx_H)
  | 0 => fun _ _ _ _ _ => none
  | n + 1 => bX10_power_4 (fX10_power_4 n)
def fX10_power (v0 : Int32) (v1 : Int32) (h : gx_H) : Option (Int32 × gx_H) :=
  fX10_power_4 gx_N v0 v1 (1 : Int32) (0 : Int32) h
set_option maxRecDepth 100000 in
set_option maxHeartbeats 4000000 in
theorem gbX10_power_4 {E : gx_Env} {d : Nat}  (k4 : Int32 → Int32 → Int32 → Int32 → gx_H → Option (Int32 × gx_H)) (hk4 : ∀ (v0 : Int32) (v1 : Int32) (v2 : Int32) (v3 : Int32) (h : gx_H), gx_G E RX10 cX10_power 4 (some .int) false d 0 0 4 [some (.int v0), some (.int v1), some (.int v2), some (.int v3)] [] h (fun x : Int32 => some (.int x)) (k4 v0 v1 v2 v3 h))  : ∀ (v0 : Int32) (v1 : Int32) (v2 : Int32) (v3 : Int32) (h : gx_H), gx_G E RX10 cX10_power 4 (some .int) false d 0 0 4 [some (.int v0), some (.int v1), some (.int v2), some (.int v3)] [] h (fun x : Int32 => some (.int x)) (bX10_power_4 k4 v0 v1 v2 v3 h) := by
  intro v0 v1 v2 v3 h
  unfold bX10_power_4
  refine gx_iload_n 3 dX10_power_4 rfl rfl ?_
  refine gx_iload_n 1 dX10_power_5 rfl rfl ?_
  refine gx_icmp_ge 19 dX10_power_6 (by decide) (fun _ => ?_) (fun _ => ?_)
  · refine gx_iload_n 2 dX10_power_19 rfl rfl ?_
    exact gx_iret dX10_power_20 rfl
  · refine gx_iload_n 2 dX10_power_9 rfl rfl ?_
    refine gx_iload_n 0 dX10_power_10 rfl rfl ?_
    refine gx_imul dX10_power_11 ?_
    refine gx_istore_n 2 [some (.int v0), some (.int v1), some (.int (v2 * v0)), some (.int v3)] dX10_power_12 rfl (by decide) rfl ?_
    refine gx_iinc (1 : Int32) [some (.int v0), some (.int v1), some (.int (v2 * v0)), some (.int (v3 + (1 : Int32)))] dX10_power_13 rfl (by decide) (by decide) rfl ?_
    refine gx_goto 4 dX10_power_16 (by decide) ?_
    exact gx_sub (hk4 v0 v1 (v2 * v0) (v3 + (1 : Int32)) h) (And.intro rfl (And.intro rfl (And.intro rfl (And.intro rfl True.intro))))
set_option maxRecDepth 100000 in
set_option maxHeartbeats 4000000 in
theorem gX10_power_4 {E : gx_Env} {d : Nat}  : ∀ (n : Nat) (v0 : Int32) (v1 : Int32) (v2 : Int32) (v3 : Int32) (h : gx_H), gx_G E RX10 cX10_power 4 (some .int) false d 0 0 4 [some (.int v0), some (.int v1), some (.int v2), some (.int v3)] [] h (fun x : Int32 => some (.int x)) (fX10_power_4 n v0 v1 v2 v3 h) := by
  intro n
  induction n with
  | zero => intro v0 v1 v2 v3 h; exact gx_none
  | succ n ih => exact gbX10_power_4  (fX10_power_4  n) ih
set_option maxRecDepth 100000 in
set_option maxHeartbeats 4000000 in
theorem geX10_power {E : gx_Env} {d : Nat} (v0 : Int32) (v1 : Int32) (h : gx_H) : gx_G E RX10 cX10_power 4 (some .int) false d 0 0 0 [some (.int v0), some (.int v1), none, none] [] h (fun x : Int32 => some (.int x)) (fX10_power v0 v1 h) := by
  unfold fX10_power
  refine gx_iconst (1 : Int32) dX10_power_0 (by decide) ?_
  refine gx_istore_n 2 [some (.int v0), some (.int v1), some (.int (1 : Int32)), none] dX10_power_1 rfl (by decide) rfl ?_
  refine gx_iconst (0 : Int32) dX10_power_2 (by decide) ?_
  refine gx_istore_n 3 [some (.int v0), some (.int v1), some (.int (1 : Int32)), some (.int (0 : Int32))] dX10_power_3 rfl (by decide) rfl ?_
  exact gx_sub (gX10_power_4 gx_N v0 v1 (1 : Int32) (0 : Int32) h) (And.intro rfl (And.intro rfl (And.intro rfl (And.intro rfl True.intro))))
theorem okX10_power {E : gx_Env} (d : Nat) {v0 : Int32} {v1 : Int32} {h : gx_H} {r : Int32} {h1 : gx_H} (q : fX10_power v0 v1 h = some (r, h1)) : gx_M E yX10_power cX10_power 4 (some .int) d 0 0 [.int v0, .int v1] h ((fun x : Int32 => some (.int x)) r) h1 := gx_meth (y := yX10_power) (cc := cX10_power) (nL := 4) (em := (fun x : Int32 => some (.int x))) (ini := false) [.int v0, .int v1] (by decide) (by simp [gx_sl]) (fun q => by cases q) (geX10_power v0 v1 h) q
theorem dX5_addRows_0 : decode cX5_addRows 0 = .ok (.iload_n 1, 1) := by decide +kernel
theorem dX5_addRows_1 : decode cX5_addRows 1 = .ok (.iconst 0, 1) := by decide +kernel
theorem dX5_addRows_2 : decode cX5_addRows 2 = .ok (.bipush 40, 2) := by decide +kernel
theorem dX5_addRows_4 : decode cX5_addRows 4 = .ok (.invokestatic 56, 3) := by decide +kernel
theorem dX5_addRows_7 : decode cX5_addRows 7 = .ok (.ifCond .eq 23, 3) := by decide +kernel
theorem dX5_addRows_10 : decode cX5_addRows 10 = .ok (.aload_n 0, 1) := by decide +kernel
theorem dX5_addRows_11 : decode cX5_addRows 11 = .ok (.getfield 28, 3) := by decide +kernel
theorem dX5_addRows_14 : decode cX5_addRows 14 = .ok (.iload_n 1, 1) := by decide +kernel
theorem dX5_addRows_15 : decode cX5_addRows 15 = .ok (.dup2, 1) := by decide +kernel
theorem dX5_addRows_16 : decode cX5_addRows 16 = .ok (.iaload, 1) := by decide +kernel
theorem dX5_addRows_17 : decode cX5_addRows 17 = .ok (.aload_n 0, 1) := by decide +kernel
theorem dX5_addRows_18 : decode cX5_addRows 18 = .ok (.getfield 12, 3) := by decide +kernel
theorem dX5_addRows_21 : decode cX5_addRows 21 = .ok (.getfield 64, 3) := by decide +kernel
theorem dX5_addRows_24 : decode cX5_addRows 24 = .ok (.iload_n 2, 1) := by decide +kernel
theorem dX5_addRows_25 : decode cX5_addRows 25 = .ok (.invokestatic 107, 3) := by decide +kernel
theorem dX5_addRows_28 : decode cX5_addRows 28 = .ok (.iadd, 1) := by decide +kernel
theorem dX5_addRows_29 : decode cX5_addRows 29 = .ok (.iastore, 1) := by decide +kernel
theorem dX5_addRows_30 : decode cX5_addRows 30 = .ok (.return_, 1) := by decide +kernel
def fX5_addRows_30 (h : gx_H) : Option (Unit × gx_H) :=
  some ((), h)
def fX5_addRows (v0 : Nat) (v1 : Int32) (v2 : Int32) (h : gx_H) : Option (Unit × gx_H) :=
  (gx_isO h v0 4).bind fun _ =>
  gx_bd (fX10_within v1 (0 : Int32) (40 : Int32) h) fun x2 h1 =>
  if x2 = 0 then
    fX5_addRows_30 h1
  else
    (gx_fR h1 v0 4 2).bind fun a3 =>
    (gx_aI 0 h1 a3 v1).bind fun x4 =>
    (gx_fR h1 v0 4 0).bind fun a5 =>
    (gx_fI h1 a5 0 1).bind fun x6 =>
    gx_bd (fX10_power x6 v2 h1) fun x8 h7 =>
    (gx_sI 0 h7 a3 v1 (x4 + x8)).bind fun h9 =>
    fX5_addRows_30 h9
set_option maxRecDepth 100000 in
set_option maxHeartbeats 4000000 in
theorem gX5_addRows_30 {E : gx_Env} {d : Nat}  : ∀  (h : gx_H), gx_G E RX5 cX5_addRows 3 none false (d + 1) 0 0 30 [none, none, none] [] h (fun _ : Unit => none) (fX5_addRows_30 h) := by
  intro  h
  unfold fX5_addRows_30
  exact gx_vret dX5_addRows_30 rfl
set_option maxRecDepth 100000 in
set_option maxHeartbeats 4000000 in
theorem geX5_addRows {E : gx_Env} {d : Nat} (v0 : Nat) (v1 : Int32) (v2 : Int32) (h : gx_H) : gx_G E RX5 cX5_addRows 3 none false (d + 1) 0 0 0 [some (.ref v0), some (.int v1), some (.int v2)] [] h (fun _ : Unit => none) (fX5_addRows v0 v1 v2 h) := by
  unfold fX5_addRows
  refine gx_bind fun _ _ => ?_
  refine gx_iload_n 1 dX5_addRows_0 rfl rfl ?_
  refine gx_iconst (0 : Int32) dX5_addRows_1 (by decide) ?_
  refine gx_bipush (40 : Int32) dX5_addRows_2 (by decide) ?_
  refine gx_callSN (bc := 0) (bs := 0) (mc := 0) (ms := 0) (em' := (fun x : Int32 => some (.int x))) [.int v1, .int (0 : Int32), .int (40 : Int32)] kc_RX5_56 dX5_addRows_4 rfl rfl (gx_w8 rfl) (fun _ _ q => okX10_within d q) (fun x2 h1 => ?_)
  refine gx_if_eq 30 dX5_addRows_7 (by decide) (fun _ => ?_) (fun _ => ?_)
  · exact gx_sub (gX5_addRows_30 h1) True.intro
  · refine gx_aload_n 0 dX5_addRows_10 rfl rfl ?_
    refine gx_getR kf_RX5_28 dX5_addRows_11 (fun a3 => ?_)
    refine gx_iload_n 1 dX5_addRows_14 rfl rfl ?_
    refine gx_dup2 dX5_addRows_15 rfl rfl ?_
    refine gx_iald dX5_addRows_16 (fun x4 => ?_)
    refine gx_aload_n 0 dX5_addRows_17 rfl rfl ?_
    refine gx_getR kf_RX5_12 dX5_addRows_18 (fun a5 => ?_)
    refine gx_getI kf_RX5_64 dX5_addRows_21 (fun x6 => ?_)
    refine gx_iload_n 2 dX5_addRows_24 rfl rfl ?_
    refine gx_callSN (bc := 0) (bs := 0) (mc := 0) (ms := 0) (em' := (fun x : Int32 => some (.int x))) [.int x6, .int v2] kc_RX5_107 dX5_addRows_25 rfl rfl (gx_w8 rfl) (fun _ _ q => okX10_power d q) (fun x8 h7 => ?_)
    refine gx_iadd dX5_addRows_28 ?_
    refine gx_iast dX5_addRows_29 (fun h9 => ?_)
    exact gx_sub (gX5_addRows_30 h9) True.intro
theorem okX5_addRows {E : gx_Env} (d : Nat) {v0 : Nat} {v1 : Int32} {v2 : Int32} {h : gx_H} {r : Unit} {h1 : gx_H} (q : fX5_addRows v0 v1 v2 h = some (r, h1)) : gx_M E yX5_addRows cX5_addRows 3 none (d + 1) 0 0 [.ref v0, .int v1, .int v2] h ((fun _ : Unit => none) r) h1 := gx_meth (y := yX5_addRows) (cc := cX5_addRows) (nL := 3) (em := (fun _ : Unit => none)) (ini := false) [.ref v0, .int v1, .int v2] (by decide) (by simp [gx_sl]) (fun q => by cases q) (geX5_addRows v0 v1 v2 h) q
theorem dX5_spreadOn_0 : decode cX5_spreadOn 0 = .ok (.iload_n 2, 1) := by decide +kernel
theorem dX5_spreadOn_1 : decode cX5_spreadOn 1 = .ok (.iconst 5, 1) := by decide +kernel
theorem dX5_spreadOn_2 : decode cX5_spreadOn 2 = .ok (.if_icmp .lt 4, 3) := by decide +kernel
theorem dX5_spreadOn_5 : decode cX5_spreadOn 5 = .ok (.return_, 1) := by decide +kernel
theorem dX5_spreadOn_6 : decode cX5_spreadOn 6 = .ok (.iconst 1, 1) := by decide +kernel
theorem dX5_spreadOn_7 : decode cX5_spreadOn 7 = .ok (.istore 4, 2) := by decide +kernel
theorem dX5_spreadOn_9 : decode cX5_spreadOn 9 = .ok (.iload 4, 2) := by decide +kernel
theorem dX5_spreadOn_11 : decode cX5_spreadOn 11 = .ok (.aload_n 0, 1) := by decide +kernel
theorem dX5_spreadOn_12 : decode cX5_spreadOn 12 = .ok (.getfield 12, 3) := by decide +kernel
theorem dX5_spreadOn_15 : decode cX5_spreadOn 15 = .ok (.getfield 64, 3) := by decide +kernel
theorem dX5_spreadOn_18 : decode cX5_spreadOn 18 = .ok (.if_icmp .gt 92, 3) := by decide +kernel
theorem dX5_spreadOn_21 : decode cX5_spreadOn 21 = .ok (.aload_n 0, 1) := by decide +kernel
theorem dX5_spreadOn_22 : decode cX5_spreadOn 22 = .ok (.getfield 12, 3) := by decide +kernel
theorem dX5_spreadOn_25 : decode cX5_spreadOn 25 = .ok (.iload_n 1, 1) := by decide +kernel
theorem dX5_spreadOn_26 : decode cX5_spreadOn 26 = .ok (.iload 4, 2) := by decide +kernel
theorem dX5_spreadOn_28 : decode cX5_spreadOn 28 = .ok (.invokevirtual 103, 3) := by decide +kernel
theorem dX5_spreadOn_31 : decode cX5_spreadOn 31 = .ok (.istore 5, 2) := by decide +kernel
theorem dX5_spreadOn_33 : decode cX5_spreadOn 33 = .ok (.iload_n 2, 1) := by decide +kernel
theorem dX5_spreadOn_34 : decode cX5_spreadOn 34 = .ok (.iconst 1, 1) := by decide +kernel
theorem dX5_spreadOn_35 : decode cX5_spreadOn 35 = .ok (.iadd, 1) := by decide +kernel
theorem dX5_spreadOn_36 : decode cX5_spreadOn 36 = .ok (.iload_n 3, 1) := by decide +kernel
theorem dX5_spreadOn_37 : decode cX5_spreadOn 37 = .ok (.if_icmp .ge 15, 3) := by decide +kernel
theorem dX5_spreadOn_40 : decode cX5_spreadOn 40 = .ok (.iload 5, 2) := by decide +kernel
theorem dX5_spreadOn_42 : decode cX5_spreadOn 42 = .ok (.aload_n 0, 1) := by decide +kernel
theorem dX5_spreadOn_43 : decode cX5_spreadOn 43 = .ok (.getfield 12, 3) := by decide +kernel
theorem dX5_spreadOn_46 : decode cX5_spreadOn 46 = .ok (.getfield 82, 3) := by decide +kernel
theorem dX5_spreadOn_49 : decode cX5_spreadOn 49 = .ok (.if_icmp .ne 17, 3) := by decide +kernel
theorem dX5_spreadOn_52 : decode cX5_spreadOn 52 = .ok (.aload_n 0, 1) := by decide +kernel
theorem dX5_spreadOn_53 : decode cX5_spreadOn 53 = .ok (.iload 5, 2) := by decide +kernel
theorem dX5_spreadOn_55 : decode cX5_spreadOn 55 = .ok (.iload_n 3, 1) := by decide +kernel
theorem dX5_spreadOn_56 : decode cX5_spreadOn 56 = .ok (.iload_n 2, 1) := by decide +kernel
theorem dX5_spreadOn_57 : decode cX5_spreadOn 57 = .ok (.isub, 1) := by decide +kernel
theorem dX5_spreadOn_58 : decode cX5_spreadOn 58 = .ok (.iconst 1, 1) := by decide +kernel
theorem dX5_spreadOn_59 : decode cX5_spreadOn 59 = .ok (.isub, 1) := by decide +kernel
theorem dX5_spreadOn_60 : decode cX5_spreadOn 60 = .ok (.invokevirtual 95, 3) := by decide +kernel
theorem dX5_spreadOn_63 : decode cX5_spreadOn 63 = .ok (.goto 41, 3) := by decide +kernel
theorem dX5_spreadOn_66 : decode cX5_spreadOn 66 = .ok (.aload_n 0, 1) := by decide +kernel
theorem dX5_spreadOn_67 : decode cX5_spreadOn 67 = .ok (.getfield 12, 3) := by decide +kernel
theorem dX5_spreadOn_70 : decode cX5_spreadOn 70 = .ok (.iload_n 1, 1) := by decide +kernel
theorem dX5_spreadOn_71 : decode cX5_spreadOn 71 = .ok (.iload 4, 2) := by decide +kernel
theorem dX5_spreadOn_73 : decode cX5_spreadOn 73 = .ok (.aload_n 0, 1) := by decide +kernel
theorem dX5_spreadOn_74 : decode cX5_spreadOn 74 = .ok (.getfield 24, 3) := by decide +kernel
theorem dX5_spreadOn_77 : decode cX5_spreadOn 77 = .ok (.iload_n 2, 1) := by decide +kernel
theorem dX5_spreadOn_78 : decode cX5_spreadOn 78 = .ok (.aaload, 1) := by decide +kernel
theorem dX5_spreadOn_79 : decode cX5_spreadOn 79 = .ok (.invokevirtual 67, 3) := by decide +kernel
theorem dX5_spreadOn_82 : decode cX5_spreadOn 82 = .ok (.aload_n 0, 1) := by decide +kernel
theorem dX5_spreadOn_83 : decode cX5_spreadOn 83 = .ok (.iload_n 1, 1) := by decide +kernel
theorem dX5_spreadOn_84 : decode cX5_spreadOn 84 = .ok (.iload_n 2, 1) := by decide +kernel
theorem dX5_spreadOn_85 : decode cX5_spreadOn 85 = .ok (.iconst 1, 1) := by decide +kernel
theorem dX5_spreadOn_86 : decode cX5_spreadOn 86 = .ok (.iadd, 1) := by decide +kernel
theorem dX5_spreadOn_87 : decode cX5_spreadOn 87 = .ok (.iload_n 3, 1) := by decide +kernel
theorem dX5_spreadOn_88 : decode cX5_spreadOn 88 = .ok (.invokestatic 99, 3) := by decide +kernel
theorem dX5_spreadOn_91 : decode cX5_spreadOn 91 = .ok (.aload_n 0, 1) := by decide +kernel
theorem dX5_spreadOn_92 : decode cX5_spreadOn 92 = .ok (.getfield 12, 3) := by decide +kernel
theorem dX5_spreadOn_95 : decode cX5_spreadOn 95 = .ok (.aload_n 0, 1) := by decide +kernel
theorem dX5_spreadOn_96 : decode cX5_spreadOn 96 = .ok (.getfield 24, 3) := by decide +kernel
theorem dX5_spreadOn_99 : decode cX5_spreadOn 99 = .ok (.iload_n 2, 1) := by decide +kernel
theorem dX5_spreadOn_100 : decode cX5_spreadOn 100 = .ok (.aaload, 1) := by decide +kernel
theorem dX5_spreadOn_101 : decode cX5_spreadOn 101 = .ok (.invokevirtual 71, 3) := by decide +kernel
theorem dX5_spreadOn_104 : decode cX5_spreadOn 104 = .ok (.iinc 4 1, 3) := by decide +kernel
theorem dX5_spreadOn_107 : decode cX5_spreadOn 107 = .ok (.goto (-98), 3) := by decide +kernel
theorem dX5_spreadOn_110 : decode cX5_spreadOn 110 = .ok (.return_, 1) := by decide +kernel
def fX5_spreadOn_104 (kr : Nat → Int32 → Int32 → Int32 → gx_H → Option (Unit × gx_H)) (k9 : Nat → Int32 → Int32 → Int32 → Int32 → gx_H → Option (Unit × gx_H)) (v0 : Nat) (v1 : Int32) (v2 : Int32) (v3 : Int32) (v4 : Int32) (h : gx_H) : Option (Unit × gx_H) :=
  k9 v0 v1 v2 v3 (v4 + (1 : Int32)) h
def fX5_spreadOn_52 (kr : Nat → Int32 → Int32 → Int32 → gx_H → Option (Unit × gx_H)) (k9 : Nat → Int32 → Int32 → Int32 → Int32 → gx_H → Option (Unit × gx_H)) (v0 : Nat) (v1 : Int32) (v2 : Int32) (v3 : Int32) (v4 : Int32) (v5 : Int32) (h : gx_H) : Option (Unit × gx_H) :=
  gx_bd (fX5_addRows v0 v5 ((v3 - v2) - (1 : Int32)) h) fun u21 h20 =>
  fX5_spreadOn_104 kr k9 v0 v1 v2 v3 v4 h20
def bX5_spreadOn_9 (kr : Nat → Int32 → Int32 → Int32 → gx_H → Option (Unit × gx_H)) (k9 : Nat → Int32 → Int32 → Int32 → Int32 → gx_H → Option (Unit × gx_H)) (v0 : Nat) (v1 : Int32) (v2 : Int32) (v3 : Int32) (v4 : Int32) (h : gx_H) : Option (Unit × gx_H) :=
  (gx_fR h v0 4 0).bind fun a1 =>
  (gx_fI h a1 0 1).bind fun x2 =>
  if x2 < v4 then
    some ((), h)
  else
    (gx_fR h v0 4 0).bind fun a3 =>
    gx_bd (fX0_landing a3 v1 v4 h) fun x5 h4 =>
    if v3 ≤ (v2 + (1 : Int32)) then
      fX5_spreadOn_52 kr k9 v0 v1 v2 v3 v4 x5 h4
    else
      (gx_fR h4 v0 4 0).bind fun a6 =>
      (gx_fI h4 a6 0 0).bind fun x7 =>
      if x5 = x7 then
        fX5_spreadOn_52 kr k9 v0 v1 v2 v3 v4 x5 h4
      else
        (gx_fR h4 v0 4 0).bind fun a8 =>
        (gx_fR h4 v0 4 1).bind fun a9 =>
        (gx_aR 3 h4 a9 v2).bind fun a10 =>
        gx_bd (fX0_move a8 v1 v4 a10 h4) fun u12 h11 =>
        gx_bd (kr v0 v1 (v2 + (1 : Int32)) v3 h11) fun u14 h13 =>
        (gx_fR h13 v0 4 0).bind fun a15 =>
        (gx_fR h13 v0 4 1).bind fun a16 =>
        (gx_aR 3 h13 a16 v2).bind fun a17 =>
        gx_bd (fX0_takeBack a15 a17 h13) fun u19 h18 =>
        fX5_spreadOn_104 kr k9 v0 v1 v2 v3 v4 h18
def fX5_spreadOn_9 (kr : Nat → Int32 → Int32 → Int32 → gx_H → Option (Unit × gx_H)) : Nat → Nat → Int32 → Int32 → Int32 → Int32 → gx_H → Option (Unit × gx_H)
  | 0 => fun _ _ _ _ _ _ => none
  | n + 1 => bX5_spreadOn_9 kr (fX5_spreadOn_9 kr n)
def eX5_spreadOn (kr : Nat → Int32 → Int32 → Int32 → gx_H → Option (Unit × gx_H)) (v0 : Nat) (v1 : Int32) (v2 : Int32) (v3 : Int32) (h : gx_H) : Option (Unit × gx_H) :=
  if v2 < (5 : Int32) then
    fX5_spreadOn_9 kr gx_N v0 v1 v2 v3 (1 : Int32) h
  else
    some ((), h)
def fX5_spreadOn : Nat → Nat → Int32 → Int32 → Int32 → gx_H → Option (Unit × gx_H)
  | 0 => fun _ _ _ _ _ => none
  | n + 1 => eX5_spreadOn (fX5_spreadOn n)
set_option maxRecDepth 100000 in
set_option maxHeartbeats 4000000 in
theorem gX5_spreadOn_104 {E : gx_Env} {d : Nat} (kr : Nat → Int32 → Int32 → Int32 → gx_H → Option (Unit × gx_H)) (hkr : ∀ (v0 : Nat) (v1 : Int32) (v2 : Int32) (v3 : Int32) (h : gx_H) (r : Unit) (h1 : gx_H), kr v0 v1 v2 v3 h = some (r, h1) → gx_M E yX5_spreadOn cX5_spreadOn 6 none (d + 3) 0 0 [.ref v0, .int v1, .int v2, .int v3] h ((fun _ : Unit => none) r) h1) (k9 : Nat → Int32 → Int32 → Int32 → Int32 → gx_H → Option (Unit × gx_H)) (hk9 : ∀ (v0 : Nat) (v1 : Int32) (v2 : Int32) (v3 : Int32) (v4 : Int32) (h : gx_H), gx_G E RX5 cX5_spreadOn 6 none false (d + 4) 0 0 9 [some (.ref v0), some (.int v1), some (.int v2), some (.int v3), some (.int v4), none] [] h (fun _ : Unit => none) (k9 v0 v1 v2 v3 v4 h))  : ∀ (v0 : Nat) (v1 : Int32) (v2 : Int32) (v3 : Int32) (v4 : Int32) (h : gx_H), gx_G E RX5 cX5_spreadOn 6 none false (d + 4) 0 0 104 [some (.ref v0), some (.int v1), some (.int v2), some (.int v3), some (.int v4), none] [] h (fun _ : Unit => none) (fX5_spreadOn_104 kr k9 v0 v1 v2 v3 v4 h) := by
  intro v0 v1 v2 v3 v4 h
  unfold fX5_spreadOn_104
  refine gx_iinc (1 : Int32) [some (.ref v0), some (.int v1), some (.int v2), some (.int v3), some (.int (v4 + (1 : Int32))), none] dX5_spreadOn_104 rfl (by decide) (by decide) rfl ?_
  refine gx_goto 9 dX5_spreadOn_107 (by decide) ?_
  exact gx_sub (hk9 v0 v1 v2 v3 (v4 + (1 : Int32)) h) (And.intro rfl (And.intro rfl (And.intro rfl (And.intro rfl (And.intro rfl True.intro)))))
set_option maxRecDepth 100000 in
set_option maxHeartbeats 4000000 in
theorem gX5_spreadOn_52 {E : gx_Env} {d : Nat} (kr : Nat → Int32 → Int32 → Int32 → gx_H → Option (Unit × gx_H)) (hkr : ∀ (v0 : Nat) (v1 : Int32) (v2 : Int32) (v3 : Int32) (h : gx_H) (r : Unit) (h1 : gx_H), kr v0 v1 v2 v3 h = some (r, h1) → gx_M E yX5_spreadOn cX5_spreadOn 6 none (d + 3) 0 0 [.ref v0, .int v1, .int v2, .int v3] h ((fun _ : Unit => none) r) h1) (k9 : Nat → Int32 → Int32 → Int32 → Int32 → gx_H → Option (Unit × gx_H)) (hk9 : ∀ (v0 : Nat) (v1 : Int32) (v2 : Int32) (v3 : Int32) (v4 : Int32) (h : gx_H), gx_G E RX5 cX5_spreadOn 6 none false (d + 4) 0 0 9 [some (.ref v0), some (.int v1), some (.int v2), some (.int v3), some (.int v4), none] [] h (fun _ : Unit => none) (k9 v0 v1 v2 v3 v4 h))  : ∀ (v0 : Nat) (v1 : Int32) (v2 : Int32) (v3 : Int32) (v4 : Int32) (v5 : Int32) (h : gx_H), gx_G E RX5 cX5_spreadOn 6 none false (d + 4) 0 0 52 [some (.ref v0), some (.int v1), some (.int v2), some (.int v3), some (.int v4), some (.int v5)] [] h (fun _ : Unit => none) (fX5_spreadOn_52 kr k9 v0 v1 v2 v3 v4 v5 h) := by
  intro v0 v1 v2 v3 v4 v5 h
  unfold fX5_spreadOn_52
  refine gx_aload_n 0 dX5_spreadOn_52 rfl rfl ?_
  refine gx_iload dX5_spreadOn_53 rfl ?_
  refine gx_iload_n 3 dX5_spreadOn_55 rfl rfl ?_
  refine gx_iload_n 2 dX5_spreadOn_56 rfl rfl ?_
  refine gx_isub dX5_spreadOn_57 ?_
  refine gx_iconst (1 : Int32) dX5_spreadOn_58 (by decide) ?_
  refine gx_isub dX5_spreadOn_59 ?_
  refine gx_callV (ci := 4) (bc := 0) (bs := 0) (mc := 0) (ms := 0) (em' := (fun _ : Unit => none)) [.int v5, .int ((v3 - v2) - (1 : Int32))] kc_RX5_95 rfl dX5_spreadOn_60 rfl rfl (gx_w8 rfl) (fun x q => (gx_isO_of (by unfold fX5_addRows at q; exact q)).2) (fun _ _ q => okX5_addRows (d + 2) q) (fun u21 h20 => ?_)
  refine gx_goto 104 dX5_spreadOn_63 (by decide) ?_
  exact gx_sub (gX5_spreadOn_104 kr hkr k9 hk9 v0 v1 v2 v3 v4 h20) (And.intro rfl (And.intro rfl (And.intro rfl (And.intro rfl (And.intro rfl True.intro)))))
set_option maxRecDepth 100000 in
set_option maxHeartbeats 4000000 in
theorem gbX5_spreadOn_9 {E : gx_Env} {d : Nat} (kr : Nat → Int32 → Int32 → Int32 → gx_H → Option (Unit × gx_H)) (hkr : ∀ (v0 : Nat) (v1 : Int32) (v2 : Int32) (v3 : Int32) (h : gx_H) (r : Unit) (h1 : gx_H), kr v0 v1 v2 v3 h = some (r, h1) → gx_M E yX5_spreadOn cX5_spreadOn 6 none (d + 3) 0 0 [.ref v0, .int v1, .int v2, .int v3] h ((fun _ : Unit => none) r) h1)  (k9 : Nat → Int32 → Int32 → Int32 → Int32 → gx_H → Option (Unit × gx_H)) (hk9 : ∀ (v0 : Nat) (v1 : Int32) (v2 : Int32) (v3 : Int32) (v4 : Int32) (h : gx_H), gx_G E RX5 cX5_spreadOn 6 none false (d + 4) 0 0 9 [some (.ref v0), some (.int v1), some (.int v2), some (.int v3), some (.int v4), none] [] h (fun _ : Unit => none) (k9 v0 v1 v2 v3 v4 h))  : ∀ (v0 : Nat) (v1 : Int32) (v2 : Int32) (v3 : Int32) (v4 : Int32) (h : gx_H), gx_G E RX5 cX5_spreadOn 6 none false (d + 4) 0 0 9 [some (.ref v0), some (.int v1), some (.int v2), some (.int v3), some (.int v4), none] [] h (fun _ : Unit => none) (bX5_spreadOn_9 kr k9 v0 v1 v2 v3 v4 h) := by
  intro v0 v1 v2 v3 v4 h
  unfold bX5_spreadOn_9
  refine gx_iload dX5_spreadOn_9 rfl ?_
  refine gx_aload_n 0 dX5_spreadOn_11 rfl rfl ?_
  refine gx_getR kf_RX5_12 dX5_spreadOn_12 (fun a1 => ?_)
  refine gx_getI kf_RX5_64 dX5_spreadOn_15 (fun x2 => ?_)
  refine gx_icmp_gt 110 dX5_spreadOn_18 (by decide) (fun _ => ?_) (fun _ => ?_)
  · exact gx_vret dX5_spreadOn_110 rfl
  · refine gx_aload_n 0 dX5_spreadOn_21 rfl rfl ?_
    refine gx_getR kf_RX5_12 dX5_spreadOn_22 (fun a3 => ?_)
    refine gx_iload_n 1 dX5_spreadOn_25 rfl rfl ?_
    refine gx_iload dX5_spreadOn_26 rfl ?_
    refine gx_callV (ci := 0) (bc := 0) (bs := 0) (mc := 0) (ms := 0) (em' := (fun x : Int32 => some (.int x))) [.int v1, .int v4] kc_RX5_103 rfl dX5_spreadOn_28 rfl rfl (gx_w8 rfl) (fun x q => (gx_isO_of (by unfold fX0_landing at q; exact q)).2) (fun _ _ q => okX0_landing d q) (fun x5 h4 => ?_)
    refine gx_istore [some (.ref v0), some (.int v1), some (.int v2), some (.int v3), some (.int v4), some (.int x5)] dX5_spreadOn_31 (by decide) rfl ?_
    refine gx_iload_n 2 dX5_spreadOn_33 rfl rfl ?_
    refine gx_iconst (1 : Int32) dX5_spreadOn_34 (by decide) ?_
    refine gx_iadd dX5_spreadOn_35 ?_
    refine gx_iload_n 3 dX5_spreadOn_36 rfl rfl ?_
    refine gx_icmp_ge 52 dX5_spreadOn_37 (by decide) (fun _ => ?_) (fun _ => ?_)
    · exact gx_sub (gX5_spreadOn_52 kr hkr k9 hk9 v0 v1 v2 v3 v4 x5 h4) (And.intro rfl (And.intro rfl (And.intro rfl (And.intro rfl (And.intro rfl (And.intro rfl True.intro))))))
    · refine gx_iload dX5_spreadOn_40 rfl ?_
      refine gx_aload_n 0 dX5_spreadOn_42 rfl rfl ?_
      refine gx_getR kf_RX5_12 dX5_spreadOn_43 (fun a6 => ?_)
      refine gx_getI kf_RX5_82 dX5_spreadOn_46 (fun x7 => ?_)
      refine gx_icmp_ne 66 dX5_spreadOn_49 (by decide) (fun _ => ?_) (fun _ => ?_)
      · refine gx_aload_n 0 dX5_spreadOn_66 rfl rfl ?_
        refine gx_getR kf_RX5_12 dX5_spreadOn_67 (fun a8 => ?_)
        refine gx_iload_n 1 dX5_spreadOn_70 rfl rfl ?_
        refine gx_iload dX5_spreadOn_71 rfl ?_
        refine gx_aload_n 0 dX5_spreadOn_73 rfl rfl ?_
        refine gx_getR kf_RX5_24 dX5_spreadOn_74 (fun a9 => ?_)
        refine gx_iload_n 2 dX5_spreadOn_77 rfl rfl ?_
        refine gx_aald3 dX5_spreadOn_78 (fun a10 => ?_)
        refine gx_callV (ci := 0) (bc := 0) (bs := 0) (mc := 0) (ms := 0) (em' := (fun _ : Unit => none)) [.int v1, .int v4, .ref a10] kc_RX5_67 rfl dX5_spreadOn_79 rfl rfl (gx_w8 rfl) (fun x q => (gx_isO_of (by unfold fX0_move at q; exact q)).2) (fun _ _ q => okX0_move d q) (fun u12 h11 => ?_)
        refine gx_aload_n 0 dX5_spreadOn_82 rfl rfl ?_
        refine gx_iload_n 1 dX5_spreadOn_83 rfl rfl ?_
        refine gx_iload_n 2 dX5_spreadOn_84 rfl rfl ?_
        refine gx_iconst (1 : Int32) dX5_spreadOn_85 (by decide) ?_
        refine gx_iadd dX5_spreadOn_86 ?_
        refine gx_iload_n 3 dX5_spreadOn_87 rfl rfl ?_
        refine gx_callS (bc := 0) (bs := 0) (mc := 0) (ms := 0) (em' := (fun _ : Unit => none)) [.ref v0, .int v1, .int (v2 + (1 : Int32)), .int v3] kc_RX5_99 dX5_spreadOn_88 rfl rfl (gx_w8 rfl) (fun _ _ q => hkr _ _ _ _ _ _ _ q) (fun u14 h13 => ?_)
        refine gx_aload_n 0 dX5_spreadOn_91 rfl rfl ?_
        refine gx_getR kf_RX5_12 dX5_spreadOn_92 (fun a15 => ?_)
        refine gx_aload_n 0 dX5_spreadOn_95 rfl rfl ?_
        refine gx_getR kf_RX5_24 dX5_spreadOn_96 (fun a16 => ?_)
        refine gx_iload_n 2 dX5_spreadOn_99 rfl rfl ?_
        refine gx_aald3 dX5_spreadOn_100 (fun a17 => ?_)
        refine gx_callV (ci := 0) (bc := 0) (bs := 0) (mc := 0) (ms := 0) (em' := (fun _ : Unit => none)) [.ref a17] kc_RX5_71 rfl dX5_spreadOn_101 rfl rfl (gx_w8 rfl) (fun x q => (gx_isO_of (by unfold fX0_takeBack at q; exact q)).2) (fun _ _ q => okX0_takeBack (d + 3) q) (fun u19 h18 => ?_)
        exact gx_sub (gX5_spreadOn_104 kr hkr k9 hk9 v0 v1 v2 v3 v4 h18) (And.intro rfl (And.intro rfl (And.intro rfl (And.intro rfl (And.intro rfl True.intro)))))
      · exact gx_sub (gX5_spreadOn_52 kr hkr k9 hk9 v0 v1 v2 v3 v4 x5 h4) (And.intro rfl (And.intro rfl (And.intro rfl (And.intro rfl (And.intro rfl (And.intro rfl True.intro))))))
set_option maxRecDepth 100000 in
set_option maxHeartbeats 4000000 in
theorem gX5_spreadOn_9 {E : gx_Env} {d : Nat} (kr : Nat → Int32 → Int32 → Int32 → gx_H → Option (Unit × gx_H)) (hkr : ∀ (v0 : Nat) (v1 : Int32) (v2 : Int32) (v3 : Int32) (h : gx_H) (r : Unit) (h1 : gx_H), kr v0 v1 v2 v3 h = some (r, h1) → gx_M E yX5_spreadOn cX5_spreadOn 6 none (d + 3) 0 0 [.ref v0, .int v1, .int v2, .int v3] h ((fun _ : Unit => none) r) h1)  : ∀ (n : Nat) (v0 : Nat) (v1 : Int32) (v2 : Int32) (v3 : Int32) (v4 : Int32) (h : gx_H), gx_G E RX5 cX5_spreadOn 6 none false (d + 4) 0 0 9 [some (.ref v0), some (.int v1), some (.int v2), some (.int v3), some (.int v4), none] [] h (fun _ : Unit => none) (fX5_spreadOn_9 kr n v0 v1 v2 v3 v4 h) := by
  intro n
  induction n with
  | zero => intro v0 v1 v2 v3 v4 h; exact gx_none
  | succ n ih => exact gbX5_spreadOn_9 kr hkr  (fX5_spreadOn_9 kr n) ih
set_option maxRecDepth 100000 in
set_option maxHeartbeats 4000000 in
theorem geX5_spreadOn {E : gx_Env} {d : Nat} (kr : Nat → Int32 → Int32 → Int32 → gx_H → Option (Unit × gx_H)) (hkr : ∀ (v0 : Nat) (v1 : Int32) (v2 : Int32) (v3 : Int32) (h : gx_H) (r : Unit) (h1 : gx_H), kr v0 v1 v2 v3 h = some (r, h1) → gx_M E yX5_spreadOn cX5_spreadOn 6 none (d + 3) 0 0 [.ref v0, .int v1, .int v2, .int v3] h ((fun _ : Unit => none) r) h1) (v0 : Nat) (v1 : Int32) (v2 : Int32) (v3 : Int32) (h : gx_H) : gx_G E RX5 cX5_spreadOn 6 none false (d + 4) 0 0 0 [some (.ref v0), some (.int v1), some (.int v2), some (.int v3), none, none] [] h (fun _ : Unit => none) (eX5_spreadOn kr v0 v1 v2 v3 h) := by
  unfold eX5_spreadOn
  refine gx_iload_n 2 dX5_spreadOn_0 rfl rfl ?_
  refine gx_iconst (5 : Int32) dX5_spreadOn_1 (by decide) ?_
  refine gx_icmp_lt 6 dX5_spreadOn_2 (by decide) (fun _ => ?_) (fun _ => ?_)
  · refine gx_iconst (1 : Int32) dX5_spreadOn_6 (by decide) ?_
    refine gx_istore [some (.ref v0), some (.int v1), some (.int v2), some (.int v3), some (.int (1 : Int32)), none] dX5_spreadOn_7 (by decide) rfl ?_
    exact gx_sub (gX5_spreadOn_9 kr hkr gx_N v0 v1 v2 v3 (1 : Int32) h) (And.intro rfl (And.intro rfl (And.intro rfl (And.intro rfl (And.intro rfl True.intro)))))
  · exact gx_vret dX5_spreadOn_5 rfl
theorem okX5_spreadOn_n {E : gx_Env} : ∀ (N d : Nat) (v0 : Nat) (v1 : Int32) (v2 : Int32) (v3 : Int32) (h : gx_H) (r : Unit) (h1 : gx_H), fX5_spreadOn N v0 v1 v2 v3 h = some (r, h1) → gx_M E yX5_spreadOn cX5_spreadOn 6 none (d + 3 + N) 0 0 [.ref v0, .int v1, .int v2, .int v3] h ((fun _ : Unit => none) r) h1
  | 0, d, v0, v1, v2, v3, h, r, h1, q => by cases q
  | N + 1, d, v0, v1, v2, v3, h, r, h1, q => gx_meth (y := yX5_spreadOn) (cc := cX5_spreadOn) (nL := 6) (em := (fun _ : Unit => none)) (ini := false) [.ref v0, .int v1, .int v2, .int v3] (by decide) (by simp [gx_sl]) (fun q => by cases q) (by
    have ih := okX5_spreadOn_n (E := E) N d
    have e : d + 3 + (N + 1) = (d + N) + 4 := by omega
    have e2 : d + 3 + N = (d + N) + 3 := by omega
    rw [e2] at ih
    rw [e]
    exact geX5_spreadOn (d := d + N) (fX5_spreadOn N) ih v0 v1 v2 v3 h) q
theorem okX5_spreadOn {E : gx_Env} (d : Nat) {v0 : Nat} {v1 : Int32} {v2 : Int32} {v3 : Int32} {h : gx_H} {r : Unit} {h1 : gx_H} (q : fX5_spreadOn 8 v0 v1 v2 v3 h = some (r, h1)) : gx_M E yX5_spreadOn cX5_spreadOn 6 none (d + 11) 0 0 [.ref v0, .int v1, .int v2, .int v3] h ((fun _ : Unit => none) r) h1 := okX5_spreadOn_n 8 d v0 v1 v2 v3 h r h1 q
theorem dX5_spreadFrom_0 : decode cX5_spreadFrom 0 = .ok (.iconst 0, 1) := by decide +kernel
theorem dX5_spreadFrom_1 : decode cX5_spreadFrom 1 = .ok (.istore 4, 2) := by decide +kernel
theorem dX5_spreadFrom_3 : decode cX5_spreadFrom 3 = .ok (.iload 4, 2) := by decide +kernel
theorem dX5_spreadFrom_5 : decode cX5_spreadFrom 5 = .ok (.bipush 40, 2) := by decide +kernel
theorem dX5_spreadFrom_7 : decode cX5_spreadFrom 7 = .ok (.if_icmp .gt 17, 3) := by decide +kernel
theorem dX5_spreadFrom_10 : decode cX5_spreadFrom 10 = .ok (.aload_n 0, 1) := by decide +kernel
theorem dX5_spreadFrom_11 : decode cX5_spreadFrom 11 = .ok (.getfield 28, 3) := by decide +kernel
theorem dX5_spreadFrom_14 : decode cX5_spreadFrom 14 = .ok (.iload 4, 2) := by decide +kernel
theorem dX5_spreadFrom_16 : decode cX5_spreadFrom 16 = .ok (.iconst 0, 1) := by decide +kernel
theorem dX5_spreadFrom_17 : decode cX5_spreadFrom 17 = .ok (.iastore, 1) := by decide +kernel
theorem dX5_spreadFrom_18 : decode cX5_spreadFrom 18 = .ok (.iinc 4 1, 3) := by decide +kernel
theorem dX5_spreadFrom_21 : decode cX5_spreadFrom 21 = .ok (.goto (-18), 3) := by decide +kernel
theorem dX5_spreadFrom_24 : decode cX5_spreadFrom 24 = .ok (.aload_n 0, 1) := by decide +kernel
theorem dX5_spreadFrom_25 : decode cX5_spreadFrom 25 = .ok (.getfield 12, 3) := by decide +kernel
theorem dX5_spreadFrom_28 : decode cX5_spreadFrom 28 = .ok (.getfield 75, 3) := by decide +kernel
theorem dX5_spreadFrom_31 : decode cX5_spreadFrom 31 = .ok (.iload_n 1, 1) := by decide +kernel
theorem dX5_spreadFrom_32 : decode cX5_spreadFrom 32 = .ok (.iload_n 2, 1) := by decide +kernel
theorem dX5_spreadFrom_33 : decode cX5_spreadFrom 33 = .ok (.iastore, 1) := by decide +kernel
theorem dX5_spreadFrom_34 : decode cX5_spreadFrom 34 = .ok (.iload_n 3, 1) := by decide +kernel
theorem dX5_spreadFrom_35 : decode cX5_spreadFrom 35 = .ok (.ifCond .le 14, 3) := by decide +kernel
theorem dX5_spreadFrom_38 : decode cX5_spreadFrom 38 = .ok (.aload_n 0, 1) := by decide +kernel
theorem dX5_spreadFrom_39 : decode cX5_spreadFrom 39 = .ok (.getfield 12, 3) := by decide +kernel
theorem dX5_spreadFrom_42 : decode cX5_spreadFrom 42 = .ok (.iload_n 1, 1) := by decide +kernel
theorem dX5_spreadFrom_43 : decode cX5_spreadFrom 43 = .ok (.invokevirtual 60, 3) := by decide +kernel
theorem dX5_spreadFrom_46 : decode cX5_spreadFrom 46 = .ok (.ifCond .eq 12, 3) := by decide +kernel
theorem dX5_spreadFrom_49 : decode cX5_spreadFrom 49 = .ok (.aload_n 0, 1) := by decide +kernel
theorem dX5_spreadFrom_50 : decode cX5_spreadFrom 50 = .ok (.iload_n 2, 1) := by decide +kernel
theorem dX5_spreadFrom_51 : decode cX5_spreadFrom 51 = .ok (.iload_n 3, 1) := by decide +kernel
theorem dX5_spreadFrom_52 : decode cX5_spreadFrom 52 = .ok (.invokevirtual 95, 3) := by decide +kernel
theorem dX5_spreadFrom_55 : decode cX5_spreadFrom 55 = .ok (.goto 10, 3) := by decide +kernel
theorem dX5_spreadFrom_58 : decode cX5_spreadFrom 58 = .ok (.aload_n 0, 1) := by decide +kernel
theorem dX5_spreadFrom_59 : decode cX5_spreadFrom 59 = .ok (.iload_n 1, 1) := by decide +kernel
theorem dX5_spreadFrom_60 : decode cX5_spreadFrom 60 = .ok (.iconst 0, 1) := by decide +kernel
theorem dX5_spreadFrom_61 : decode cX5_spreadFrom 61 = .ok (.iload_n 3, 1) := by decide +kernel
theorem dX5_spreadFrom_62 : decode cX5_spreadFrom 62 = .ok (.invokestatic 99, 3) := by decide +kernel
theorem dX5_spreadFrom_65 : decode cX5_spreadFrom 65 = .ok (.return_, 1) := by decide +kernel
def fX5_spreadFrom_65 (h : gx_H) : Option (Unit × gx_H) :=
  some ((), h)
def fX5_spreadFrom_49 (v0 : Nat) (v2 : Int32) (v3 : Int32) (h : gx_H) : Option (Unit × gx_H) :=
  gx_bd (fX5_addRows v0 v2 v3 h) fun u12 h11 =>
  fX5_spreadFrom_65 h11
def bX5_spreadFrom_3 (k3 : Nat → Int32 → Int32 → Int32 → Int32 → gx_H → Option (Unit × gx_H)) (v0 : Nat) (v1 : Int32) (v2 : Int32) (v3 : Int32) (v4 : Int32) (h : gx_H) : Option (Unit × gx_H) :=
  if (40 : Int32) < v4 then
    (gx_fR h v0 4 0).bind fun a1 =>
    (gx_fR h a1 0 9).bind fun a2 =>
    (gx_sI 0 h a2 v1 v2).bind fun h3 =>
    if v3 ≤ 0 then
      fX5_spreadFrom_49 v0 v2 v3 h3
    else
      (gx_fR h3 v0 4 0).bind fun a4 =>
      gx_bd (fX0_isHome a4 v1 h3) fun x6 h5 =>
      if x6 = 0 then
        gx_bd (fX5_spreadOn 8 v0 v1 (0 : Int32) v3 h5) fun u8 h7 =>
        fX5_spreadFrom_65 h7
      else
        fX5_spreadFrom_49 v0 v2 v3 h5
  else
    (gx_fR h v0 4 2).bind fun a9 =>
    (gx_sI 0 h a9 v4 (0 : Int32)).bind fun h10 =>
    k3 v0 v1 v2 v3 (v4 + (1 : Int32)) h10
def fX5_spreadFrom_3 : Nat → Nat → Int32 → Int32 → Int32 → Int32 → gx_H → Option (Unit × gx_H)
  | 0 => fun _ _ _ _ _ _ => none
  | n + 1 => bX5_spreadFrom_3 (fX5_spreadFrom_3 n)
def fX5_spreadFrom (v0 : Nat) (v1 : Int32) (v2 : Int32) (v3 : Int32) (h : gx_H) : Option (Unit × gx_H) :=
  (gx_isO h v0 4).bind fun _ =>
  fX5_spreadFrom_3 gx_N v0 v1 v2 v3 (0 : Int32) h
set_option maxRecDepth 100000 in
set_option maxHeartbeats 4000000 in
theorem gX5_spreadFrom_65 {E : gx_Env} {d : Nat}  : ∀  (h : gx_H), gx_G E RX5 cX5_spreadFrom 5 none false (d + 12) 0 0 65 [none, none, none, none, none] [] h (fun _ : Unit => none) (fX5_spreadFrom_65 h) := by
  intro  h
  unfold fX5_spreadFrom_65
  exact gx_vret dX5_spreadFrom_65 rfl
set_option maxRecDepth 100000 in
set_option maxHeartbeats 4000000 in
theorem gX5_spreadFrom_49 {E : gx_Env} {d : Nat}  : ∀ (v0 : Nat) (v2 : Int32) (v3 : Int32) (h : gx_H), gx_G E RX5 cX5_spreadFrom 5 none false (d + 12) 0 0 49 [some (.ref v0), none, some (.int v2), some (.int v3), none] [] h (fun _ : Unit => none) (fX5_spreadFrom_49 v0 v2 v3 h) := by
  intro v0 v2 v3 h
  unfold fX5_spreadFrom_49
  refine gx_aload_n 0 dX5_spreadFrom_49 rfl rfl ?_
  refine gx_iload_n 2 dX5_spreadFrom_50 rfl rfl ?_
  refine gx_iload_n 3 dX5_spreadFrom_51 rfl rfl ?_
  refine gx_callV (ci := 4) (bc := 0) (bs := 0) (mc := 0) (ms := 0) (em' := (fun _ : Unit => none)) [.int v2, .int v3] kc_RX5_95 rfl dX5_spreadFrom_52 rfl rfl (gx_w8 rfl) (fun x q => (gx_isO_of (by unfold fX5_addRows at q; exact q)).2) (fun _ _ q => okX5_addRows (d + 10) q) (fun u12 h11 => ?_)
  refine gx_goto 65 dX5_spreadFrom_55 (by decide) ?_
  exact gx_sub (gX5_spreadFrom_65 h11) True.intro
set_option maxRecDepth 100000 in
set_option maxHeartbeats 4000000 in
theorem gbX5_spreadFrom_3 {E : gx_Env} {d : Nat}  (k3 : Nat → Int32 → Int32 → Int32 → Int32 → gx_H → Option (Unit × gx_H)) (hk3 : ∀ (v0 : Nat) (v1 : Int32) (v2 : Int32) (v3 : Int32) (v4 : Int32) (h : gx_H), gx_G E RX5 cX5_spreadFrom 5 none false (d + 12) 0 0 3 [some (.ref v0), some (.int v1), some (.int v2), some (.int v3), some (.int v4)] [] h (fun _ : Unit => none) (k3 v0 v1 v2 v3 v4 h))  : ∀ (v0 : Nat) (v1 : Int32) (v2 : Int32) (v3 : Int32) (v4 : Int32) (h : gx_H), gx_G E RX5 cX5_spreadFrom 5 none false (d + 12) 0 0 3 [some (.ref v0), some (.int v1), some (.int v2), some (.int v3), some (.int v4)] [] h (fun _ : Unit => none) (bX5_spreadFrom_3 k3 v0 v1 v2 v3 v4 h) := by
  intro v0 v1 v2 v3 v4 h
  unfold bX5_spreadFrom_3
  refine gx_iload dX5_spreadFrom_3 rfl ?_
  refine gx_bipush (40 : Int32) dX5_spreadFrom_5 (by decide) ?_
  refine gx_icmp_gt 24 dX5_spreadFrom_7 (by decide) (fun _ => ?_) (fun _ => ?_)
  · refine gx_aload_n 0 dX5_spreadFrom_24 rfl rfl ?_
    refine gx_getR kf_RX5_12 dX5_spreadFrom_25 (fun a1 => ?_)
    refine gx_getR kf_RX5_75 dX5_spreadFrom_28 (fun a2 => ?_)
    refine gx_iload_n 1 dX5_spreadFrom_31 rfl rfl ?_
    refine gx_iload_n 2 dX5_spreadFrom_32 rfl rfl ?_
    refine gx_iast dX5_spreadFrom_33 (fun h3 => ?_)
    refine gx_iload_n 3 dX5_spreadFrom_34 rfl rfl ?_
    refine gx_if_le 49 dX5_spreadFrom_35 (by decide) (fun _ => ?_) (fun _ => ?_)
    · exact gx_sub (gX5_spreadFrom_49 v0 v2 v3 h3) (And.intro rfl (And.intro rfl (And.intro rfl True.intro)))
    · refine gx_aload_n 0 dX5_spreadFrom_38 rfl rfl ?_
      refine gx_getR kf_RX5_12 dX5_spreadFrom_39 (fun a4 => ?_)
      refine gx_iload_n 1 dX5_spreadFrom_42 rfl rfl ?_
      refine gx_callV (ci := 0) (bc := 0) (bs := 0) (mc := 0) (ms := 0) (em' := (fun x : Int32 => some (.int x))) [.int v1] kc_RX5_60 rfl dX5_spreadFrom_43 rfl rfl (gx_w8 rfl) (fun x q => (gx_isO_of (by unfold fX0_isHome at q; exact q)).2) (fun _ _ q => okX0_isHome (d + 11) q) (fun x6 h5 => ?_)
      refine gx_if_eq 58 dX5_spreadFrom_46 (by decide) (fun _ => ?_) (fun _ => ?_)
      · refine gx_aload_n 0 dX5_spreadFrom_58 rfl rfl ?_
        refine gx_iload_n 1 dX5_spreadFrom_59 rfl rfl ?_
        refine gx_iconst (0 : Int32) dX5_spreadFrom_60 (by decide) ?_
        refine gx_iload_n 3 dX5_spreadFrom_61 rfl rfl ?_
        refine gx_callS (bc := 0) (bs := 0) (mc := 0) (ms := 0) (em' := (fun _ : Unit => none)) [.ref v0, .int v1, .int (0 : Int32), .int v3] kc_RX5_99 dX5_spreadFrom_62 rfl rfl (gx_w8 rfl) (fun _ _ q => okX5_spreadOn d q) (fun u8 h7 => ?_)
        exact gx_sub (gX5_spreadFrom_65 h7) True.intro
      · exact gx_sub (gX5_spreadFrom_49 v0 v2 v3 h5) (And.intro rfl (And.intro rfl (And.intro rfl True.intro)))
  · refine gx_aload_n 0 dX5_spreadFrom_10 rfl rfl ?_
    refine gx_getR kf_RX5_28 dX5_spreadFrom_11 (fun a9 => ?_)
    refine gx_iload dX5_spreadFrom_14 rfl ?_
    refine gx_iconst (0 : Int32) dX5_spreadFrom_16 (by decide) ?_
    refine gx_iast dX5_spreadFrom_17 (fun h10 => ?_)
    refine gx_iinc (1 : Int32) [some (.ref v0), some (.int v1), some (.int v2), some (.int v3), some (.int (v4 + (1 : Int32)))] dX5_spreadFrom_18 rfl (by decide) (by decide) rfl ?_
    refine gx_goto 3 dX5_spreadFrom_21 (by decide) ?_
    exact gx_sub (hk3 v0 v1 v2 v3 (v4 + (1 : Int32)) h10) (And.intro rfl (And.intro rfl (And.intro rfl (And.intro rfl (And.intro rfl True.intro)))))
set_option maxRecDepth 100000 in
set_option maxHeartbeats 4000000 in
theorem gX5_spreadFrom_3 {E : gx_Env} {d : Nat}  : ∀ (n : Nat) (v0 : Nat) (v1 : Int32) (v2 : Int32) (v3 : Int32) (v4 : Int32) (h : gx_H), gx_G E RX5 cX5_spreadFrom 5 none false (d + 12) 0 0 3 [some (.ref v0), some (.int v1), some (.int v2), some (.int v3), some (.int v4)] [] h (fun _ : Unit => none) (fX5_spreadFrom_3 n v0 v1 v2 v3 v4 h) := by
  intro n
  induction n with
  | zero => intro v0 v1 v2 v3 v4 h; exact gx_none
  | succ n ih => exact gbX5_spreadFrom_3  (fX5_spreadFrom_3  n) ih
set_option maxRecDepth 100000 in
set_option maxHeartbeats 4000000 in
theorem geX5_spreadFrom {E : gx_Env} {d : Nat} (v0 : Nat) (v1 : Int32) (v2 : Int32) (v3 : Int32) (h : gx_H) : gx_G E RX5 cX5_spreadFrom 5 none false (d + 12) 0 0 0 [some (.ref v0), some (.int v1), some (.int v2), some (.int v3), none] [] h (fun _ : Unit => none) (fX5_spreadFrom v0 v1 v2 v3 h) := by
  unfold fX5_spreadFrom
  refine gx_bind fun _ _ => ?_
  refine gx_iconst (0 : Int32) dX5_spreadFrom_0 (by decide) ?_
  refine gx_istore [some (.ref v0), some (.int v1), some (.int v2), some (.int v3), some (.int (0 : Int32))] dX5_spreadFrom_1 (by decide) rfl ?_
  exact gx_sub (gX5_spreadFrom_3 gx_N v0 v1 v2 v3 (0 : Int32) h) (And.intro rfl (And.intro rfl (And.intro rfl (And.intro rfl (And.intro rfl True.intro)))))
theorem okX5_spreadFrom {E : gx_Env} (d : Nat) {v0 : Nat} {v1 : Int32} {v2 : Int32} {v3 : Int32} {h : gx_H} {r : Unit} {h1 : gx_H} (q : fX5_spreadFrom v0 v1 v2 v3 h = some (r, h1)) : gx_M E yX5_spreadFrom cX5_spreadFrom 5 none (d + 12) 0 0 [.ref v0, .int v1, .int v2, .int v3] h ((fun _ : Unit => none) r) h1 := gx_meth (y := yX5_spreadFrom) (cc := cX5_spreadFrom) (nL := 5) (em := (fun _ : Unit => none)) (ini := false) [.ref v0, .int v1, .int v2, .int v3] (by decide) (by simp [gx_sl]) (fun q => by cases q) (geX5_spreadFrom v0 v1 v2 v3 h) q
theorem dX5_spread_0 : decode cX5_spread 0 = .ok (.aload_n 0, 1) := by decide +kernel
theorem dX5_spread_1 : decode cX5_spread 1 = .ok (.getfield 12, 3) := by decide +kernel
theorem dX5_spread_4 : decode cX5_spread 4 = .ok (.aload_n 1, 1) := by decide +kernel
theorem dX5_spread_5 : decode cX5_spread 5 = .ok (.invokevirtual 48, 3) := by decide +kernel
theorem dX5_spread_8 : decode cX5_spread 8 = .ok (.aload_n 0, 1) := by decide +kernel
theorem dX5_spread_9 : decode cX5_spread 9 = .ok (.iload_n 2, 1) := by decide +kernel
theorem dX5_spread_10 : decode cX5_spread 10 = .ok (.aload_n 0, 1) := by decide +kernel
theorem dX5_spread_11 : decode cX5_spread 11 = .ok (.getfield 12, 3) := by decide +kernel
theorem dX5_spread_14 : decode cX5_spread 14 = .ok (.getfield 75, 3) := by decide +kernel
theorem dX5_spread_17 : decode cX5_spread 17 = .ok (.iload_n 2, 1) := by decide +kernel
theorem dX5_spread_18 : decode cX5_spread 18 = .ok (.iaload, 1) := by decide +kernel
theorem dX5_spread_19 : decode cX5_spread 19 = .ok (.iload_n 3, 1) := by decide +kernel
theorem dX5_spread_20 : decode cX5_spread 20 = .ok (.invokevirtual 78, 3) := by decide +kernel
theorem dX5_spread_23 : decode cX5_spread 23 = .ok (.return_, 1) := by decide +kernel
def fX5_spread (v0 : Nat) (v1 : Nat) (v2 : Int32) (v3 : Int32) (h : gx_H) : Option (Unit × gx_H) :=
  (gx_isO h v0 4).bind fun _ =>
  (gx_fR h v0 4 0).bind fun a1 =>
  gx_bd (fX0_copy a1 v1 h) fun u3 h2 =>
  (gx_fR h2 v0 4 0).bind fun a4 =>
  (gx_fR h2 a4 0 9).bind fun a5 =>
  (gx_aI 0 h2 a5 v2).bind fun x6 =>
  gx_bd (fX5_spreadFrom v0 v2 x6 v3 h2) fun u8 h7 =>
  some ((), h7)
set_option maxRecDepth 100000 in
set_option maxHeartbeats 4000000 in
theorem geX5_spread {E : gx_Env} {d : Nat} (v0 : Nat) (v1 : Nat) (v2 : Int32) (v3 : Int32) (h : gx_H) : gx_G E RX5 cX5_spread 4 none false (d + 13) 0 0 0 [some (.ref v0), some (.ref v1), some (.int v2), some (.int v3)] [] h (fun _ : Unit => none) (fX5_spread v0 v1 v2 v3 h) := by
  unfold fX5_spread
  refine gx_bind fun _ _ => ?_
  refine gx_aload_n 0 dX5_spread_0 rfl rfl ?_
  refine gx_getR kf_RX5_12 dX5_spread_1 (fun a1 => ?_)
  refine gx_aload_n 1 dX5_spread_4 rfl rfl ?_
  refine gx_callV (ci := 0) (bc := 0) (bs := 0) (mc := 0) (ms := 0) (em' := (fun _ : Unit => none)) [.ref v1] kc_RX5_48 rfl dX5_spread_5 rfl rfl (gx_w8 rfl) (fun x q => (gx_isO_of (by unfold fX0_copy at q; exact q)).2) (fun _ _ q => okX0_copy (d + 12) q) (fun u3 h2 => ?_)
  refine gx_aload_n 0 dX5_spread_8 rfl rfl ?_
  refine gx_iload_n 2 dX5_spread_9 rfl rfl ?_
  refine gx_aload_n 0 dX5_spread_10 rfl rfl ?_
  refine gx_getR kf_RX5_12 dX5_spread_11 (fun a4 => ?_)
  refine gx_getR kf_RX5_75 dX5_spread_14 (fun a5 => ?_)
  refine gx_iload_n 2 dX5_spread_17 rfl rfl ?_
  refine gx_iald dX5_spread_18 (fun x6 => ?_)
  refine gx_iload_n 3 dX5_spread_19 rfl rfl ?_
  refine gx_callV (ci := 4) (bc := 0) (bs := 0) (mc := 0) (ms := 0) (em' := (fun _ : Unit => none)) [.int v2, .int x6, .int v3] kc_RX5_78 rfl dX5_spread_20 rfl rfl (gx_w8 rfl) (fun x q => (gx_isO_of (by unfold fX5_spreadFrom at q; exact q)).2) (fun _ _ q => okX5_spreadFrom d q) (fun u8 h7 => ?_)
  exact gx_vret dX5_spread_23 rfl
theorem okX5_spread {E : gx_Env} (d : Nat) {v0 : Nat} {v1 : Nat} {v2 : Int32} {v3 : Int32} {h : gx_H} {r : Unit} {h1 : gx_H} (q : fX5_spread v0 v1 v2 v3 h = some (r, h1)) : gx_M E yX5_spread cX5_spread 4 none (d + 13) 0 0 [.ref v0, .ref v1, .int v2, .int v3] h ((fun _ : Unit => none) r) h1 := gx_meth (y := yX5_spread) (cc := cX5_spread) (nL := 4) (em := (fun _ : Unit => none)) (ini := false) [.ref v0, .ref v1, .int v2, .int v3] (by decide) (by simp [gx_sl]) (fun q => by cases q) (geX5_spread v0 v1 v2 v3 h) q
theorem dX5_rowsHome_0 : decode cX5_rowsHome 0 = .ok (.aload_n 0, 1) := by decide +kernel
theorem dX5_rowsHome_1 : decode cX5_rowsHome 1 = .ok (.getfield 12, 3) := by decide +kernel
theorem dX5_rowsHome_4 : decode cX5_rowsHome 4 = .ok (.getfield 82, 3) := by decide +kernel
theorem dX5_rowsHome_7 : decode cX5_rowsHome 7 = .ok (.iconst 0, 1) := by decide +kernel
theorem dX5_rowsHome_8 : decode cX5_rowsHome 8 = .ok (.bipush 40, 2) := by decide +kernel
theorem dX5_rowsHome_10 : decode cX5_rowsHome 10 = .ok (.invokestatic 56, 3) := by decide +kernel
theorem dX5_rowsHome_13 : decode cX5_rowsHome 13 = .ok (.ifCond .eq 18, 3) := by decide +kernel
theorem dX5_rowsHome_16 : decode cX5_rowsHome 16 = .ok (.aload_n 0, 1) := by decide +kernel
theorem dX5_rowsHome_17 : decode cX5_rowsHome 17 = .ok (.getfield 28, 3) := by decide +kernel
theorem dX5_rowsHome_20 : decode cX5_rowsHome 20 = .ok (.aload_n 0, 1) := by decide +kernel
theorem dX5_rowsHome_21 : decode cX5_rowsHome 21 = .ok (.getfield 12, 3) := by decide +kernel
theorem dX5_rowsHome_24 : decode cX5_rowsHome 24 = .ok (.getfield 82, 3) := by decide +kernel
theorem dX5_rowsHome_27 : decode cX5_rowsHome 27 = .ok (.iaload, 1) := by decide +kernel
theorem dX5_rowsHome_28 : decode cX5_rowsHome 28 = .ok (.goto 4, 3) := by decide +kernel
theorem dX5_rowsHome_31 : decode cX5_rowsHome 31 = .ok (.iconst 0, 1) := by decide +kernel
theorem dX5_rowsHome_32 : decode cX5_rowsHome 32 = .ok (.ireturn, 1) := by decide +kernel
def fX5_rowsHome_32 (s0 : Int32) (h : gx_H) : Option (Int32 × gx_H) :=
  some (s0, h)
def fX5_rowsHome (v0 : Nat) (h : gx_H) : Option (Int32 × gx_H) :=
  (gx_isO h v0 4).bind fun _ =>
  (gx_fR h v0 4 0).bind fun a1 =>
  (gx_fI h a1 0 0).bind fun x2 =>
  gx_bd (fX10_within x2 (0 : Int32) (40 : Int32) h) fun x4 h3 =>
  if x4 = 0 then
    fX5_rowsHome_32 (0 : Int32) h3
  else
    (gx_fR h3 v0 4 2).bind fun a5 =>
    (gx_fR h3 v0 4 0).bind fun a6 =>
    (gx_fI h3 a6 0 0).bind fun x7 =>
    (gx_aI 0 h3 a5 x7).bind fun x8 =>
    fX5_rowsHome_32 x8 h3
set_option maxRecDepth 100000 in
set_option maxHeartbeats 4000000 in
theorem gX5_rowsHome_32 {E : gx_Env} {d : Nat}  : ∀ (s0 : Int32) (h : gx_H), gx_G E RX5 cX5_rowsHome 1 (some .int) false (d + 1) 0 0 32 [none] [.int s0] h (fun x : Int32 => some (.int x)) (fX5_rowsHome_32 s0 h) := by
  intro s0 h
  unfold fX5_rowsHome_32
  exact gx_iret dX5_rowsHome_32 rfl
set_option maxRecDepth 100000 in
set_option maxHeartbeats 4000000 in
theorem geX5_rowsHome {E : gx_Env} {d : Nat} (v0 : Nat) (h : gx_H) : gx_G E RX5 cX5_rowsHome 1 (some .int) false (d + 1) 0 0 0 [some (.ref v0)] [] h (fun x : Int32 => some (.int x)) (fX5_rowsHome v0 h) := by
  unfold fX5_rowsHome
  refine gx_bind fun _ _ => ?_
  refine gx_aload_n 0 dX5_rowsHome_0 rfl rfl ?_
  refine gx_getR kf_RX5_12 dX5_rowsHome_1 (fun a1 => ?_)
  refine gx_getI kf_RX5_82 dX5_rowsHome_4 (fun x2 => ?_)
  refine gx_iconst (0 : Int32) dX5_rowsHome_7 (by decide) ?_
  refine gx_bipush (40 : Int32) dX5_rowsHome_8 (by decide) ?_
  refine gx_callSN (bc := 0) (bs := 0) (mc := 0) (ms := 0) (em' := (fun x : Int32 => some (.int x))) [.int x2, .int (0 : Int32), .int (40 : Int32)] kc_RX5_56 dX5_rowsHome_10 rfl rfl (gx_w8 rfl) (fun _ _ q => okX10_within d q) (fun x4 h3 => ?_)
  refine gx_if_eq 31 dX5_rowsHome_13 (by decide) (fun _ => ?_) (fun _ => ?_)
  · refine gx_iconst (0 : Int32) dX5_rowsHome_31 (by decide) ?_
    exact gx_sub (gX5_rowsHome_32 (0 : Int32) h3) True.intro
  · refine gx_aload_n 0 dX5_rowsHome_16 rfl rfl ?_
    refine gx_getR kf_RX5_28 dX5_rowsHome_17 (fun a5 => ?_)
    refine gx_aload_n 0 dX5_rowsHome_20 rfl rfl ?_
    refine gx_getR kf_RX5_12 dX5_rowsHome_21 (fun a6 => ?_)
    refine gx_getI kf_RX5_82 dX5_rowsHome_24 (fun x7 => ?_)
    refine gx_iald dX5_rowsHome_27 (fun x8 => ?_)
    refine gx_goto 32 dX5_rowsHome_28 (by decide) ?_
    exact gx_sub (gX5_rowsHome_32 x8 h3) True.intro
theorem okX5_rowsHome {E : gx_Env} (d : Nat) {v0 : Nat} {h : gx_H} {r : Int32} {h1 : gx_H} (q : fX5_rowsHome v0 h = some (r, h1)) : gx_M E yX5_rowsHome cX5_rowsHome 1 (some .int) (d + 1) 0 0 [.ref v0] h ((fun x : Int32 => some (.int x)) r) h1 := gx_meth (y := yX5_rowsHome) (cc := cX5_rowsHome) (nL := 1) (em := (fun x : Int32 => some (.int x))) (ini := false) [.ref v0] (by decide) (by simp [gx_sl]) (fun q => by cases q) (geX5_rowsHome v0 h) q
theorem dX5_sumOfSquares_0 : decode cX5_sumOfSquares 0 = .ok (.lconst 0, 1) := by decide +kernel
theorem dX5_sumOfSquares_1 : decode cX5_sumOfSquares 1 = .ok (.lstore_n 1, 1) := by decide +kernel
theorem dX5_sumOfSquares_2 : decode cX5_sumOfSquares 2 = .ok (.iconst 0, 1) := by decide +kernel
theorem dX5_sumOfSquares_3 : decode cX5_sumOfSquares 3 = .ok (.istore_n 3, 1) := by decide +kernel
theorem dX5_sumOfSquares_4 : decode cX5_sumOfSquares 4 = .ok (.iload_n 3, 1) := by decide +kernel
theorem dX5_sumOfSquares_5 : decode cX5_sumOfSquares 5 = .ok (.bipush 40, 2) := by decide +kernel
theorem dX5_sumOfSquares_7 : decode cX5_sumOfSquares 7 = .ok (.if_icmp .gt 22, 3) := by decide +kernel
theorem dX5_sumOfSquares_10 : decode cX5_sumOfSquares 10 = .ok (.lload_n 1, 1) := by decide +kernel
theorem dX5_sumOfSquares_11 : decode cX5_sumOfSquares 11 = .ok (.iload_n 3, 1) := by decide +kernel
theorem dX5_sumOfSquares_12 : decode cX5_sumOfSquares 12 = .ok (.i2l, 1) := by decide +kernel
theorem dX5_sumOfSquares_13 : decode cX5_sumOfSquares 13 = .ok (.aload_n 0, 1) := by decide +kernel
theorem dX5_sumOfSquares_14 : decode cX5_sumOfSquares 14 = .ok (.getfield 28, 3) := by decide +kernel
theorem dX5_sumOfSquares_17 : decode cX5_sumOfSquares 17 = .ok (.iload_n 3, 1) := by decide +kernel
theorem dX5_sumOfSquares_18 : decode cX5_sumOfSquares 18 = .ok (.iaload, 1) := by decide +kernel
theorem dX5_sumOfSquares_19 : decode cX5_sumOfSquares 19 = .ok (.i2l, 1) := by decide +kernel
theorem dX5_sumOfSquares_20 : decode cX5_sumOfSquares 20 = .ok (.lmul, 1) := by decide +kernel
theorem dX5_sumOfSquares_21 : decode cX5_sumOfSquares 21 = .ok (.ladd, 1) := by decide +kernel
theorem dX5_sumOfSquares_22 : decode cX5_sumOfSquares 22 = .ok (.lstore_n 1, 1) := by decide +kernel
theorem dX5_sumOfSquares_23 : decode cX5_sumOfSquares 23 = .ok (.iinc 3 1, 3) := by decide +kernel
theorem dX5_sumOfSquares_26 : decode cX5_sumOfSquares 26 = .ok (.goto (-22), 3) := by decide +kernel
theorem dX5_sumOfSquares_29 : decode cX5_sumOfSquares 29 = .ok (.lload_n 1, 1) := by decide +kernel
theorem dX5_sumOfSquares_30 : decode cX5_sumOfSquares 30 = .ok (.lreturn, 1) := by decide +kernel
def bX5_sumOfSquares_4 (k4 : Nat → Int64 → Int32 → gx_H → Option (Int64 × gx_H)) (v0 : Nat) (v1 : Int64) (v3 : Int32) (h : gx_H) : Option (Int64 × gx_H) :=
  if (40 : Int32) < v3 then
    some (v1, h)
  else
    (gx_fR h v0 4 2).bind fun a1 =>
    (gx_aI 0 h a1 v3).bind fun x2 =>
    k4 v0 (v1 + (((v3).toInt64) * ((x2).toInt64))) (v3 + (1 : Int32)) h
def fX5_sumOfSquares_4 : Nat → Nat → Int64 → Int32 → gx_H → Option (Int64 × gx_H)
  | 0 => fun _ _ _ _ => none
  | n + 1 => bX5_sumOfSquares_4 (fX5_sumOfSquares_4 n)
def fX5_sumOfSquares (v0 : Nat) (h : gx_H) : Option (Int64 × gx_H) :=
  (gx_isO h v0 4).bind fun _ =>
  fX5_sumOfSquares_4 gx_N v0 (0 : Int64) (0 : Int32) h
set_option maxRecDepth 100000 in
set_option maxHeartbeats 4000000 in
theorem gbX5_sumOfSquares_4 {E : gx_Env} {d : Nat}  (k4 : Nat → Int64 → Int32 → gx_H → Option (Int64 × gx_H)) (hk4 : ∀ (v0 : Nat) (v1 : Int64) (v3 : Int32) (h : gx_H), gx_G E RX5 cX5_sumOfSquares 4 (some .long) false d 0 0 4 [some (.ref v0), some (.long v1), none, some (.int v3)] [] h (fun x : Int64 => some (.long x)) (k4 v0 v1 v3 h))  : ∀ (v0 : Nat) (v1 : Int64) (v3 : Int32) (h : gx_H), gx_G E RX5 cX5_sumOfSquares 4 (some .long) false d 0 0 4 [some (.ref v0), some (.long v1), none, some (.int v3)] [] h (fun x : Int64 => some (.long x)) (bX5_sumOfSquares_4 k4 v0 v1 v3 h) := by
  intro v0 v1 v3 h
  unfold bX5_sumOfSquares_4
  refine gx_iload_n 3 dX5_sumOfSquares_4 rfl rfl ?_
  refine gx_bipush (40 : Int32) dX5_sumOfSquares_5 (by decide) ?_
  refine gx_icmp_gt 29 dX5_sumOfSquares_7 (by decide) (fun _ => ?_) (fun _ => ?_)
  · refine gx_lload_n 1 dX5_sumOfSquares_29 rfl rfl ?_
    exact gx_lret dX5_sumOfSquares_30 rfl
  · refine gx_lload_n 1 dX5_sumOfSquares_10 rfl rfl ?_
    refine gx_iload_n 3 dX5_sumOfSquares_11 rfl rfl ?_
    refine gx_i2l dX5_sumOfSquares_12 ?_
    refine gx_aload_n 0 dX5_sumOfSquares_13 rfl rfl ?_
    refine gx_getR kf_RX5_28 dX5_sumOfSquares_14 (fun a1 => ?_)
    refine gx_iload_n 3 dX5_sumOfSquares_17 rfl rfl ?_
    refine gx_iald dX5_sumOfSquares_18 (fun x2 => ?_)
    refine gx_i2l dX5_sumOfSquares_19 ?_
    refine gx_lmul dX5_sumOfSquares_20 ?_
    refine gx_ladd dX5_sumOfSquares_21 ?_
    refine gx_lstore_n 1 [some (.ref v0), some (.long (v1 + (((v3).toInt64) * ((x2).toInt64)))), none, some (.int v3)] dX5_sumOfSquares_22 rfl (by decide) rfl ?_
    refine gx_iinc (1 : Int32) [some (.ref v0), some (.long (v1 + (((v3).toInt64) * ((x2).toInt64)))), none, some (.int (v3 + (1 : Int32)))] dX5_sumOfSquares_23 rfl (by decide) (by decide) rfl ?_
    refine gx_goto 4 dX5_sumOfSquares_26 (by decide) ?_
    exact gx_sub (hk4 v0 (v1 + (((v3).toInt64) * ((x2).toInt64))) (v3 + (1 : Int32)) h) (And.intro rfl (And.intro rfl (And.intro rfl True.intro)))
set_option maxRecDepth 100000 in
set_option maxHeartbeats 4000000 in
theorem gX5_sumOfSquares_4 {E : gx_Env} {d : Nat}  : ∀ (n : Nat) (v0 : Nat) (v1 : Int64) (v3 : Int32) (h : gx_H), gx_G E RX5 cX5_sumOfSquares 4 (some .long) false d 0 0 4 [some (.ref v0), some (.long v1), none, some (.int v3)] [] h (fun x : Int64 => some (.long x)) (fX5_sumOfSquares_4 n v0 v1 v3 h) := by
  intro n
  induction n with
  | zero => intro v0 v1 v3 h; exact gx_none
  | succ n ih => exact gbX5_sumOfSquares_4  (fX5_sumOfSquares_4  n) ih
set_option maxRecDepth 100000 in
set_option maxHeartbeats 4000000 in
theorem geX5_sumOfSquares {E : gx_Env} {d : Nat} (v0 : Nat) (h : gx_H) : gx_G E RX5 cX5_sumOfSquares 4 (some .long) false d 0 0 0 [some (.ref v0), none, none, none] [] h (fun x : Int64 => some (.long x)) (fX5_sumOfSquares v0 h) := by
  unfold fX5_sumOfSquares
  refine gx_bind fun _ _ => ?_
  refine gx_lconst (0 : Int64) dX5_sumOfSquares_0 (by decide) ?_
  refine gx_lstore_n 1 [some (.ref v0), some (.long (0 : Int64)), none, none] dX5_sumOfSquares_1 rfl (by decide) rfl ?_
  refine gx_iconst (0 : Int32) dX5_sumOfSquares_2 (by decide) ?_
  refine gx_istore_n 3 [some (.ref v0), some (.long (0 : Int64)), none, some (.int (0 : Int32))] dX5_sumOfSquares_3 rfl (by decide) rfl ?_
  exact gx_sub (gX5_sumOfSquares_4 gx_N v0 (0 : Int64) (0 : Int32) h) (And.intro rfl (And.intro rfl (And.intro rfl True.intro)))
theorem okX5_sumOfSquares {E : gx_Env} (d : Nat) {v0 : Nat} {h : gx_H} {r : Int64} {h1 : gx_H} (q : fX5_sumOfSquares v0 h = some (r, h1)) : gx_M E yX5_sumOfSquares cX5_sumOfSquares 4 (some .long) d 0 0 [.ref v0] h ((fun x : Int64 => some (.long x)) r) h1 := gx_meth (y := yX5_sumOfSquares) (cc := cX5_sumOfSquares) (nL := 4) (em := (fun x : Int64 => some (.long x))) (ini := false) [.ref v0] (by decide) (by simp [gx_sl]) (fun q => by cases q) (geX5_sumOfSquares v0 h) q
theorem dX5_unlikeSquares_0 : decode cX5_unlikeSquares 0 = .ok (.iconst 0, 1) := by decide +kernel
theorem dX5_unlikeSquares_1 : decode cX5_unlikeSquares 1 = .ok (.istore_n 1, 1) := by decide +kernel
theorem dX5_unlikeSquares_2 : decode cX5_unlikeSquares 2 = .ok (.iconst 0, 1) := by decide +kernel
theorem dX5_unlikeSquares_3 : decode cX5_unlikeSquares 3 = .ok (.istore_n 2, 1) := by decide +kernel
theorem dX5_unlikeSquares_4 : decode cX5_unlikeSquares 4 = .ok (.iload_n 2, 1) := by decide +kernel
theorem dX5_unlikeSquares_5 : decode cX5_unlikeSquares 5 = .ok (.bipush 40, 2) := by decide +kernel
theorem dX5_unlikeSquares_7 : decode cX5_unlikeSquares 7 = .ok (.if_icmp .gt 21, 3) := by decide +kernel
theorem dX5_unlikeSquares_10 : decode cX5_unlikeSquares 10 = .ok (.aload_n 0, 1) := by decide +kernel
theorem dX5_unlikeSquares_11 : decode cX5_unlikeSquares 11 = .ok (.getfield 28, 3) := by decide +kernel
theorem dX5_unlikeSquares_14 : decode cX5_unlikeSquares 14 = .ok (.iload_n 2, 1) := by decide +kernel
theorem dX5_unlikeSquares_15 : decode cX5_unlikeSquares 15 = .ok (.iaload, 1) := by decide +kernel
theorem dX5_unlikeSquares_16 : decode cX5_unlikeSquares 16 = .ok (.ifCond .le 6, 3) := by decide +kernel
theorem dX5_unlikeSquares_19 : decode cX5_unlikeSquares 19 = .ok (.iinc 1 1, 3) := by decide +kernel
theorem dX5_unlikeSquares_22 : decode cX5_unlikeSquares 22 = .ok (.iinc 2 1, 3) := by decide +kernel
theorem dX5_unlikeSquares_25 : decode cX5_unlikeSquares 25 = .ok (.goto (-21), 3) := by decide +kernel
theorem dX5_unlikeSquares_28 : decode cX5_unlikeSquares 28 = .ok (.iload_n 1, 1) := by decide +kernel
theorem dX5_unlikeSquares_29 : decode cX5_unlikeSquares 29 = .ok (.ireturn, 1) := by decide +kernel
def fX5_unlikeSquares_22 (k4 : Nat → Int32 → Int32 → gx_H → Option (Int32 × gx_H)) (v0 : Nat) (v1 : Int32) (v2 : Int32) (h : gx_H) : Option (Int32 × gx_H) :=
  k4 v0 v1 (v2 + (1 : Int32)) h
def bX5_unlikeSquares_4 (k4 : Nat → Int32 → Int32 → gx_H → Option (Int32 × gx_H)) (v0 : Nat) (v1 : Int32) (v2 : Int32) (h : gx_H) : Option (Int32 × gx_H) :=
  if (40 : Int32) < v2 then
    some (v1, h)
  else
    (gx_fR h v0 4 2).bind fun a1 =>
    (gx_aI 0 h a1 v2).bind fun x2 =>
    if x2 ≤ 0 then
      fX5_unlikeSquares_22 k4 v0 v1 v2 h
    else
      fX5_unlikeSquares_22 k4 v0 (v1 + (1 : Int32)) v2 h
def fX5_unlikeSquares_4 : Nat → Nat → Int32 → Int32 → gx_H → Option (Int32 × gx_H)
  | 0 => fun _ _ _ _ => none
  | n + 1 => bX5_unlikeSquares_4 (fX5_unlikeSquares_4 n)
def fX5_unlikeSquares (v0 : Nat) (h : gx_H) : Option (Int32 × gx_H) :=
  (gx_isO h v0 4).bind fun _ =>
  fX5_unlikeSquares_4 gx_N v0 (0 : Int32) (0 : Int32) h
set_option maxRecDepth 100000 in
set_option maxHeartbeats 4000000 in
theorem gX5_unlikeSquares_22 {E : gx_Env} {d : Nat} (k4 : Nat → Int32 → Int32 → gx_H → Option (Int32 × gx_H)) (hk4 : ∀ (v0 : Nat) (v1 : Int32) (v2 : Int32) (h : gx_H), gx_G E RX5 cX5_unlikeSquares 3 (some .int) false d 0 0 4 [some (.ref v0), some (.int v1), some (.int v2)] [] h (fun x : Int32 => some (.int x)) (k4 v0 v1 v2 h))  : ∀ (v0 : Nat) (v1 : Int32) (v2 : Int32) (h : gx_H), gx_G E RX5 cX5_unlikeSquares 3 (some .int) false d 0 0 22 [some (.ref v0), some (.int v1), some (.int v2)] [] h (fun x : Int32 => some (.int x)) (fX5_unlikeSquares_22 k4 v0 v1 v2 h) := by
  intro v0 v1 v2 h
  unfold fX5_unlikeSquares_22
  refine gx_iinc (1 : Int32) [some (.ref v0), some (.int v1), some (.int (v2 + (1 : Int32)))] dX5_unlikeSquares_22 rfl (by decide) (by decide) rfl ?_
  refine gx_goto 4 dX5_unlikeSquares_25 (by decide) ?_
  exact gx_sub (hk4 v0 v1 (v2 + (1 : Int32)) h) (And.intro rfl (And.intro rfl (And.intro rfl True.intro)))
set_option maxRecDepth 100000 in
set_option maxHeartbeats 4000000 in
theorem gbX5_unlikeSquares_4 {E : gx_Env} {d : Nat}  (k4 : Nat → Int32 → Int32 → gx_H → Option (Int32 × gx_H)) (hk4 : ∀ (v0 : Nat) (v1 : Int32) (v2 : Int32) (h : gx_H), gx_G E RX5 cX5_unlikeSquares 3 (some .int) false d 0 0 4 [some (.ref v0), some (.int v1), some (.int v2)] [] h (fun x : Int32 => some (.int x)) (k4 v0 v1 v2 h))  : ∀ (v0 : Nat) (v1 : Int32) (v2 : Int32) (h : gx_H), gx_G E RX5 cX5_unlikeSquares 3 (some .int) false d 0 0 4 [some (.ref v0), some (.int v1), some (.int v2)] [] h (fun x : Int32 => some (.int x)) (bX5_unlikeSquares_4 k4 v0 v1 v2 h) := by
  intro v0 v1 v2 h
  unfold bX5_unlikeSquares_4
  refine gx_iload_n 2 dX5_unlikeSquares_4 rfl rfl ?_
  refine gx_bipush (40 : Int32) dX5_unlikeSquares_5 (by decide) ?_
  refine gx_icmp_gt 28 dX5_unlikeSquares_7 (by decide) (fun _ => ?_) (fun _ => ?_)
  · refine gx_iload_n 1 dX5_unlikeSquares_28 rfl rfl ?_
    exact gx_iret dX5_unlikeSquares_29 rfl
  · refine gx_aload_n 0 dX5_unlikeSquares_10 rfl rfl ?_
    refine gx_getR kf_RX5_28 dX5_unlikeSquares_11 (fun a1 => ?_)
    refine gx_iload_n 2 dX5_unlikeSquares_14 rfl rfl ?_
    refine gx_iald dX5_unlikeSquares_15 (fun x2 => ?_)
    refine gx_if_le 22 dX5_unlikeSquares_16 (by decide) (fun _ => ?_) (fun _ => ?_)
    · exact gx_sub (gX5_unlikeSquares_22 k4 hk4 v0 v1 v2 h) (And.intro rfl (And.intro rfl (And.intro rfl True.intro)))
    · refine gx_iinc (1 : Int32) [some (.ref v0), some (.int (v1 + (1 : Int32))), some (.int v2)] dX5_unlikeSquares_19 rfl (by decide) (by decide) rfl ?_
      exact gx_sub (gX5_unlikeSquares_22 k4 hk4 v0 (v1 + (1 : Int32)) v2 h) (And.intro rfl (And.intro rfl (And.intro rfl True.intro)))
set_option maxRecDepth 100000 in
set_option maxHeartbeats 4000000 in
theorem gX5_unlikeSquares_4 {E : gx_Env} {d : Nat}  : ∀ (n : Nat) (v0 : Nat) (v1 : Int32) (v2 : Int32) (h : gx_H), gx_G E RX5 cX5_unlikeSquares 3 (some .int) false d 0 0 4 [some (.ref v0), some (.int v1), some (.int v2)] [] h (fun x : Int32 => some (.int x)) (fX5_unlikeSquares_4 n v0 v1 v2 h) := by
  intro n
  induction n with
  | zero => intro v0 v1 v2 h; exact gx_none
  | succ n ih => exact gbX5_unlikeSquares_4  (fX5_unlikeSquares_4  n) ih
set_option maxRecDepth 100000 in
set_option maxHeartbeats 4000000 in
theorem geX5_unlikeSquares {E : gx_Env} {d : Nat} (v0 : Nat) (h : gx_H) : gx_G E RX5 cX5_unlikeSquares 3 (some .int) false d 0 0 0 [some (.ref v0), none, none] [] h (fun x : Int32 => some (.int x)) (fX5_unlikeSquares v0 h) := by
  unfold fX5_unlikeSquares
  refine gx_bind fun _ _ => ?_
  refine gx_iconst (0 : Int32) dX5_unlikeSquares_0 (by decide) ?_
  refine gx_istore_n 1 [some (.ref v0), some (.int (0 : Int32)), none] dX5_unlikeSquares_1 rfl (by decide) rfl ?_
  refine gx_iconst (0 : Int32) dX5_unlikeSquares_2 (by decide) ?_
  refine gx_istore_n 2 [some (.ref v0), some (.int (0 : Int32)), some (.int (0 : Int32))] dX5_unlikeSquares_3 rfl (by decide) rfl ?_
  exact gx_sub (gX5_unlikeSquares_4 gx_N v0 (0 : Int32) (0 : Int32) h) (And.intro rfl (And.intro rfl (And.intro rfl True.intro)))
theorem okX5_unlikeSquares {E : gx_Env} (d : Nat) {v0 : Nat} {h : gx_H} {r : Int32} {h1 : gx_H} (q : fX5_unlikeSquares v0 h = some (r, h1)) : gx_M E yX5_unlikeSquares cX5_unlikeSquares 3 (some .int) d 0 0 [.ref v0] h ((fun x : Int32 => some (.int x)) r) h1 := gx_meth (y := yX5_unlikeSquares) (cc := cX5_unlikeSquares) (nL := 3) (em := (fun x : Int32 => some (.int x))) (ini := false) [.ref v0] (by decide) (by simp [gx_sl]) (fun q => by cases q) (geX5_unlikeSquares v0 h) q
theorem dX5_leastSquare_0 : decode cX5_leastSquare 0 = .ok (.iconst 0, 1) := by decide +kernel
theorem dX5_leastSquare_1 : decode cX5_leastSquare 1 = .ok (.istore_n 1, 1) := by decide +kernel
theorem dX5_leastSquare_2 : decode cX5_leastSquare 2 = .ok (.iload_n 1, 1) := by decide +kernel
theorem dX5_leastSquare_3 : decode cX5_leastSquare 3 = .ok (.bipush 40, 2) := by decide +kernel
theorem dX5_leastSquare_5 : decode cX5_leastSquare 5 = .ok (.if_icmp .gt 20, 3) := by decide +kernel
theorem dX5_leastSquare_8 : decode cX5_leastSquare 8 = .ok (.aload_n 0, 1) := by decide +kernel
theorem dX5_leastSquare_9 : decode cX5_leastSquare 9 = .ok (.getfield 28, 3) := by decide +kernel
theorem dX5_leastSquare_12 : decode cX5_leastSquare 12 = .ok (.iload_n 1, 1) := by decide +kernel
theorem dX5_leastSquare_13 : decode cX5_leastSquare 13 = .ok (.iaload, 1) := by decide +kernel
theorem dX5_leastSquare_14 : decode cX5_leastSquare 14 = .ok (.ifCond .le 5, 3) := by decide +kernel
theorem dX5_leastSquare_17 : decode cX5_leastSquare 17 = .ok (.iload_n 1, 1) := by decide +kernel
theorem dX5_leastSquare_18 : decode cX5_leastSquare 18 = .ok (.ireturn, 1) := by decide +kernel
theorem dX5_leastSquare_19 : decode cX5_leastSquare 19 = .ok (.iinc 1 1, 3) := by decide +kernel
theorem dX5_leastSquare_22 : decode cX5_leastSquare 22 = .ok (.goto (-20), 3) := by decide +kernel
theorem dX5_leastSquare_25 : decode cX5_leastSquare 25 = .ok (.iconst (-1), 1) := by decide +kernel
theorem dX5_leastSquare_26 : decode cX5_leastSquare 26 = .ok (.ireturn, 1) := by decide +kernel
def bX5_leastSquare_2 (k2 : Nat → Int32 → gx_H → Option (Int32 × gx_H)) (v0 : Nat) (v1 : Int32) (h : gx_H) : Option (Int32 × gx_H) :=
  if (40 : Int32) < v1 then
    some ((-1 : Int32), h)
  else
    (gx_fR h v0 4 2).bind fun a1 =>
    (gx_aI 0 h a1 v1).bind fun x2 =>
    if x2 ≤ 0 then
      k2 v0 (v1 + (1 : Int32)) h
    else
      some (v1, h)
def fX5_leastSquare_2 : Nat → Nat → Int32 → gx_H → Option (Int32 × gx_H)
  | 0 => fun _ _ _ => none
  | n + 1 => bX5_leastSquare_2 (fX5_leastSquare_2 n)
def fX5_leastSquare (v0 : Nat) (h : gx_H) : Option (Int32 × gx_H) :=
  (gx_isO h v0 4).bind fun _ =>
  fX5_leastSquare_2 gx_N v0 (0 : Int32) h
set_option maxRecDepth 100000 in
set_option maxHeartbeats 4000000 in
theorem gbX5_leastSquare_2 {E : gx_Env} {d : Nat}  (k2 : Nat → Int32 → gx_H → Option (Int32 × gx_H)) (hk2 : ∀ (v0 : Nat) (v1 : Int32) (h : gx_H), gx_G E RX5 cX5_leastSquare 2 (some .int) false d 0 0 2 [some (.ref v0), some (.int v1)] [] h (fun x : Int32 => some (.int x)) (k2 v0 v1 h))  : ∀ (v0 : Nat) (v1 : Int32) (h : gx_H), gx_G E RX5 cX5_leastSquare 2 (some .int) false d 0 0 2 [some (.ref v0), some (.int v1)] [] h (fun x : Int32 => some (.int x)) (bX5_leastSquare_2 k2 v0 v1 h) := by
  intro v0 v1 h
  unfold bX5_leastSquare_2
  refine gx_iload_n 1 dX5_leastSquare_2 rfl rfl ?_
  refine gx_bipush (40 : Int32) dX5_leastSquare_3 (by decide) ?_
  refine gx_icmp_gt 25 dX5_leastSquare_5 (by decide) (fun _ => ?_) (fun _ => ?_)
  · refine gx_iconst (-1 : Int32) dX5_leastSquare_25 (by decide) ?_
    exact gx_iret dX5_leastSquare_26 rfl
  · refine gx_aload_n 0 dX5_leastSquare_8 rfl rfl ?_
    refine gx_getR kf_RX5_28 dX5_leastSquare_9 (fun a1 => ?_)
    refine gx_iload_n 1 dX5_leastSquare_12 rfl rfl ?_
    refine gx_iald dX5_leastSquare_13 (fun x2 => ?_)
    refine gx_if_le 19 dX5_leastSquare_14 (by decide) (fun _ => ?_) (fun _ => ?_)
    · refine gx_iinc (1 : Int32) [some (.ref v0), some (.int (v1 + (1 : Int32)))] dX5_leastSquare_19 rfl (by decide) (by decide) rfl ?_
      refine gx_goto 2 dX5_leastSquare_22 (by decide) ?_
      exact gx_sub (hk2 v0 (v1 + (1 : Int32)) h) (And.intro rfl (And.intro rfl True.intro))
    · refine gx_iload_n 1 dX5_leastSquare_17 rfl rfl ?_
      exact gx_iret dX5_leastSquare_18 rfl
set_option maxRecDepth 100000 in
set_option maxHeartbeats 4000000 in
theorem gX5_leastSquare_2 {E : gx_Env} {d : Nat}  : ∀ (n : Nat) (v0 : Nat) (v1 : Int32) (h : gx_H), gx_G E RX5 cX5_leastSquare 2 (some .int) false d 0 0 2 [some (.ref v0), some (.int v1)] [] h (fun x : Int32 => some (.int x)) (fX5_leastSquare_2 n v0 v1 h) := by
  intro n
  induction n with
  | zero => intro v0 v1 h; exact gx_none
  | succ n ih => exact gbX5_leastSquare_2  (fX5_leastSquare_2  n) ih
set_option maxRecDepth 100000 in
set_option maxHeartbeats 4000000 in
theorem geX5_leastSquare {E : gx_Env} {d : Nat} (v0 : Nat) (h : gx_H) : gx_G E RX5 cX5_leastSquare 2 (some .int) false d 0 0 0 [some (.ref v0), none] [] h (fun x : Int32 => some (.int x)) (fX5_leastSquare v0 h) := by
  unfold fX5_leastSquare
  refine gx_bind fun _ _ => ?_
  refine gx_iconst (0 : Int32) dX5_leastSquare_0 (by decide) ?_
  refine gx_istore_n 1 [some (.ref v0), some (.int (0 : Int32))] dX5_leastSquare_1 rfl (by decide) rfl ?_
  exact gx_sub (gX5_leastSquare_2 gx_N v0 (0 : Int32) h) (And.intro rfl (And.intro rfl True.intro))
theorem okX5_leastSquare {E : gx_Env} (d : Nat) {v0 : Nat} {h : gx_H} {r : Int32} {h1 : gx_H} (q : fX5_leastSquare v0 h = some (r, h1)) : gx_M E yX5_leastSquare cX5_leastSquare 2 (some .int) d 0 0 [.ref v0] h ((fun x : Int32 => some (.int x)) r) h1 := gx_meth (y := yX5_leastSquare) (cc := cX5_leastSquare) (nL := 2) (em := (fun x : Int32 => some (.int x))) (ini := false) [.ref v0] (by decide) (by simp [gx_sl]) (fun q => by cases q) (geX5_leastSquare v0 h) q
theorem dX5_greatestSquare_0 : decode cX5_greatestSquare 0 = .ok (.bipush 40, 2) := by decide +kernel
theorem dX5_greatestSquare_2 : decode cX5_greatestSquare 2 = .ok (.istore_n 1, 1) := by decide +kernel
theorem dX5_greatestSquare_3 : decode cX5_greatestSquare 3 = .ok (.iload_n 1, 1) := by decide +kernel
theorem dX5_greatestSquare_4 : decode cX5_greatestSquare 4 = .ok (.ifCond .lt 20, 3) := by decide +kernel
theorem dX5_greatestSquare_7 : decode cX5_greatestSquare 7 = .ok (.aload_n 0, 1) := by decide +kernel
theorem dX5_greatestSquare_8 : decode cX5_greatestSquare 8 = .ok (.getfield 28, 3) := by decide +kernel
theorem dX5_greatestSquare_11 : decode cX5_greatestSquare 11 = .ok (.iload_n 1, 1) := by decide +kernel
theorem dX5_greatestSquare_12 : decode cX5_greatestSquare 12 = .ok (.iaload, 1) := by decide +kernel
theorem dX5_greatestSquare_13 : decode cX5_greatestSquare 13 = .ok (.ifCond .le 5, 3) := by decide +kernel
theorem dX5_greatestSquare_16 : decode cX5_greatestSquare 16 = .ok (.iload_n 1, 1) := by decide +kernel
theorem dX5_greatestSquare_17 : decode cX5_greatestSquare 17 = .ok (.ireturn, 1) := by decide +kernel
theorem dX5_greatestSquare_18 : decode cX5_greatestSquare 18 = .ok (.iinc 1 (-1), 3) := by decide +kernel
theorem dX5_greatestSquare_21 : decode cX5_greatestSquare 21 = .ok (.goto (-18), 3) := by decide +kernel
theorem dX5_greatestSquare_24 : decode cX5_greatestSquare 24 = .ok (.iconst (-1), 1) := by decide +kernel
theorem dX5_greatestSquare_25 : decode cX5_greatestSquare 25 = .ok (.ireturn, 1) := by decide +kernel
def bX5_greatestSquare_3 (k3 : Nat → Int32 → gx_H → Option (Int32 × gx_H)) (v0 : Nat) (v1 : Int32) (h : gx_H) : Option (Int32 × gx_H) :=
  if v1 < 0 then
    some ((-1 : Int32), h)
  else
    (gx_fR h v0 4 2).bind fun a1 =>
    (gx_aI 0 h a1 v1).bind fun x2 =>
    if x2 ≤ 0 then
      k3 v0 (v1 + (-1 : Int32)) h
    else
      some (v1, h)
def fX5_greatestSquare_3 : Nat → Nat → Int32 → gx_H → Option (Int32 × gx_H)
  | 0 => fun _ _ _ => none
  | n + 1 => bX5_greatestSquare_3 (fX5_greatestSquare_3 n)
def fX5_greatestSquare (v0 : Nat) (h : gx_H) : Option (Int32 × gx_H) :=
  (gx_isO h v0 4).bind fun _ =>
  fX5_greatestSquare_3 gx_N v0 (40 : Int32) h
set_option maxRecDepth 100000 in
set_option maxHeartbeats 4000000 in
theorem gbX5_greatestSquare_3 {E : gx_Env} {d : Nat}  (k3 : Nat → Int32 → gx_H → Option (Int32 × gx_H)) (hk3 : ∀ (v0 : Nat) (v1 : Int32) (h : gx_H), gx_G E RX5 cX5_greatestSquare 2 (some .int) false d 0 0 3 [some (.ref v0), some (.int v1)] [] h (fun x : Int32 => some (.int x)) (k3 v0 v1 h))  : ∀ (v0 : Nat) (v1 : Int32) (h : gx_H), gx_G E RX5 cX5_greatestSquare 2 (some .int) false d 0 0 3 [some (.ref v0), some (.int v1)] [] h (fun x : Int32 => some (.int x)) (bX5_greatestSquare_3 k3 v0 v1 h) := by
  intro v0 v1 h
  unfold bX5_greatestSquare_3
  refine gx_iload_n 1 dX5_greatestSquare_3 rfl rfl ?_
  refine gx_if_lt 24 dX5_greatestSquare_4 (by decide) (fun _ => ?_) (fun _ => ?_)
  · refine gx_iconst (-1 : Int32) dX5_greatestSquare_24 (by decide) ?_
    exact gx_iret dX5_greatestSquare_25 rfl
  · refine gx_aload_n 0 dX5_greatestSquare_7 rfl rfl ?_
    refine gx_getR kf_RX5_28 dX5_greatestSquare_8 (fun a1 => ?_)
    refine gx_iload_n 1 dX5_greatestSquare_11 rfl rfl ?_
    refine gx_iald dX5_greatestSquare_12 (fun x2 => ?_)
    refine gx_if_le 18 dX5_greatestSquare_13 (by decide) (fun _ => ?_) (fun _ => ?_)
    · refine gx_iinc (-1 : Int32) [some (.ref v0), some (.int (v1 + (-1 : Int32)))] dX5_greatestSquare_18 rfl (by decide) (by decide) rfl ?_
      refine gx_goto 3 dX5_greatestSquare_21 (by decide) ?_
      exact gx_sub (hk3 v0 (v1 + (-1 : Int32)) h) (And.intro rfl (And.intro rfl True.intro))
    · refine gx_iload_n 1 dX5_greatestSquare_16 rfl rfl ?_
      exact gx_iret dX5_greatestSquare_17 rfl
set_option maxRecDepth 100000 in
set_option maxHeartbeats 4000000 in
theorem gX5_greatestSquare_3 {E : gx_Env} {d : Nat}  : ∀ (n : Nat) (v0 : Nat) (v1 : Int32) (h : gx_H), gx_G E RX5 cX5_greatestSquare 2 (some .int) false d 0 0 3 [some (.ref v0), some (.int v1)] [] h (fun x : Int32 => some (.int x)) (fX5_greatestSquare_3 n v0 v1 h) := by
  intro n
  induction n with
  | zero => intro v0 v1 h; exact gx_none
  | succ n ih => exact gbX5_greatestSquare_3  (fX5_greatestSquare_3  n) ih
set_option maxRecDepth 100000 in
set_option maxHeartbeats 4000000 in
theorem geX5_greatestSquare {E : gx_Env} {d : Nat} (v0 : Nat) (h : gx_H) : gx_G E RX5 cX5_greatestSquare 2 (some .int) false d 0 0 0 [some (.ref v0), none] [] h (fun x : Int32 => some (.int x)) (fX5_greatestSquare v0 h) := by
  unfold fX5_greatestSquare
  refine gx_bind fun _ _ => ?_
  refine gx_bipush (40 : Int32) dX5_greatestSquare_0 (by decide) ?_
  refine gx_istore_n 1 [some (.ref v0), some (.int (40 : Int32))] dX5_greatestSquare_2 rfl (by decide) rfl ?_
  exact gx_sub (gX5_greatestSquare_3 gx_N v0 (40 : Int32) h) (And.intro rfl (And.intro rfl True.intro))
theorem okX5_greatestSquare {E : gx_Env} (d : Nat) {v0 : Nat} {h : gx_H} {r : Int32} {h1 : gx_H} (q : fX5_greatestSquare v0 h = some (r, h1)) : gx_M E yX5_greatestSquare cX5_greatestSquare 2 (some .int) d 0 0 [.ref v0] h ((fun x : Int32 => some (.int x)) r) h1 := gx_meth (y := yX5_greatestSquare) (cc := cX5_greatestSquare) (nL := 2) (em := (fun x : Int32 => some (.int x))) (ini := false) [.ref v0] (by decide) (by simp [gx_sl]) (fun q => by cases q) (geX5_greatestSquare v0 h) q
theorem dX5_findBestSquare_0 : decode cX5_findBestSquare 0 = .ok (.aload_n 0, 1) := by decide +kernel
theorem dX5_findBestSquare_1 : decode cX5_findBestSquare 1 = .ok (.getfield 12, 3) := by decide +kernel
theorem dX5_findBestSquare_4 : decode cX5_findBestSquare 4 = .ok (.aload_n 1, 1) := by decide +kernel
theorem dX5_findBestSquare_5 : decode cX5_findBestSquare 5 = .ok (.invokevirtual 48, 3) := by decide +kernel
theorem dX5_findBestSquare_8 : decode cX5_findBestSquare 8 = .ok (.aload_n 0, 1) := by decide +kernel
theorem dX5_findBestSquare_9 : decode cX5_findBestSquare 9 = .ok (.iconst (-1), 1) := by decide +kernel
theorem dX5_findBestSquare_10 : decode cX5_findBestSquare 10 = .ok (.putfield 41, 3) := by decide +kernel
theorem dX5_findBestSquare_13 : decode cX5_findBestSquare 13 = .ok (.aload_n 0, 1) := by decide +kernel
theorem dX5_findBestSquare_14 : decode cX5_findBestSquare 14 = .ok (.iconst (-1), 1) := by decide +kernel
theorem dX5_findBestSquare_15 : decode cX5_findBestSquare 15 = .ok (.putfield 45, 3) := by decide +kernel
theorem dX5_findBestSquare_18 : decode cX5_findBestSquare 18 = .ok (.iconst 0, 1) := by decide +kernel
theorem dX5_findBestSquare_19 : decode cX5_findBestSquare 19 = .ok (.istore 4, 2) := by decide +kernel
theorem dX5_findBestSquare_21 : decode cX5_findBestSquare 21 = .ok (.iload 4, 2) := by decide +kernel
theorem dX5_findBestSquare_23 : decode cX5_findBestSquare 23 = .ok (.aload_n 0, 1) := by decide +kernel
theorem dX5_findBestSquare_24 : decode cX5_findBestSquare 24 = .ok (.getfield 12, 3) := by decide +kernel
theorem dX5_findBestSquare_27 : decode cX5_findBestSquare 27 = .ok (.getfield 82, 3) := by decide +kernel
theorem dX5_findBestSquare_30 : decode cX5_findBestSquare 30 = .ok (.if_icmp .ge 42, 3) := by decide +kernel
theorem dX5_findBestSquare_33 : decode cX5_findBestSquare 33 = .ok (.aload_n 0, 1) := by decide +kernel
theorem dX5_findBestSquare_34 : decode cX5_findBestSquare 34 = .ok (.iload_n 2, 1) := by decide +kernel
theorem dX5_findBestSquare_35 : decode cX5_findBestSquare 35 = .ok (.iload 4, 2) := by decide +kernel
theorem dX5_findBestSquare_37 : decode cX5_findBestSquare 37 = .ok (.iload_n 3, 1) := by decide +kernel
theorem dX5_findBestSquare_38 : decode cX5_findBestSquare 38 = .ok (.invokevirtual 78, 3) := by decide +kernel
theorem dX5_findBestSquare_41 : decode cX5_findBestSquare 41 = .ok (.aload_n 0, 1) := by decide +kernel
theorem dX5_findBestSquare_42 : decode cX5_findBestSquare 42 = .ok (.invokevirtual 85, 3) := by decide +kernel
theorem dX5_findBestSquare_45 : decode cX5_findBestSquare 45 = .ok (.aload_n 0, 1) := by decide +kernel
theorem dX5_findBestSquare_46 : decode cX5_findBestSquare 46 = .ok (.getfield 45, 3) := by decide +kernel
theorem dX5_findBestSquare_49 : decode cX5_findBestSquare 49 = .ok (.if_icmp .lt 17, 3) := by decide +kernel
theorem dX5_findBestSquare_52 : decode cX5_findBestSquare 52 = .ok (.aload_n 0, 1) := by decide +kernel
theorem dX5_findBestSquare_53 : decode cX5_findBestSquare 53 = .ok (.iload 4, 2) := by decide +kernel
theorem dX5_findBestSquare_55 : decode cX5_findBestSquare 55 = .ok (.putfield 41, 3) := by decide +kernel
theorem dX5_findBestSquare_58 : decode cX5_findBestSquare 58 = .ok (.aload_n 0, 1) := by decide +kernel
theorem dX5_findBestSquare_59 : decode cX5_findBestSquare 59 = .ok (.aload_n 0, 1) := by decide +kernel
theorem dX5_findBestSquare_60 : decode cX5_findBestSquare 60 = .ok (.invokevirtual 85, 3) := by decide +kernel
theorem dX5_findBestSquare_63 : decode cX5_findBestSquare 63 = .ok (.putfield 45, 3) := by decide +kernel
theorem dX5_findBestSquare_66 : decode cX5_findBestSquare 66 = .ok (.iinc 4 1, 3) := by decide +kernel
theorem dX5_findBestSquare_69 : decode cX5_findBestSquare 69 = .ok (.goto (-48), 3) := by decide +kernel
theorem dX5_findBestSquare_72 : decode cX5_findBestSquare 72 = .ok (.return_, 1) := by decide +kernel
def fX5_findBestSquare_66 (k21 : Nat → Int32 → Int32 → Int32 → gx_H → Option (Unit × gx_H)) (v0 : Nat) (v2 : Int32) (v3 : Int32) (v4 : Int32) (h : gx_H) : Option (Unit × gx_H) :=
  k21 v0 v2 v3 (v4 + (1 : Int32)) h
def bX5_findBestSquare_21 (k21 : Nat → Int32 → Int32 → Int32 → gx_H → Option (Unit × gx_H)) (v0 : Nat) (v2 : Int32) (v3 : Int32) (v4 : Int32) (h : gx_H) : Option (Unit × gx_H) :=
  (gx_fR h v0 4 0).bind fun a6 =>
  (gx_fI h a6 0 0).bind fun x7 =>
  if x7 ≤ v4 then
    some ((), h)
  else
    gx_bd (fX5_spreadFrom v0 v2 v4 v3 h) fun u9 h8 =>
    gx_bd (fX5_rowsHome v0 h8) fun x11 h10 =>
    (gx_fI h10 v0 4 7).bind fun x12 =>
    if x11 < x12 then
      fX5_findBestSquare_66 k21 v0 v2 v3 v4 h10
    else
      (gx_pF h10 v0 4 6 (.int v4)).bind fun h13 =>
      gx_bd (fX5_rowsHome v0 h13) fun x15 h14 =>
      (gx_pF h14 v0 4 7 (.int x15)).bind fun h16 =>
      fX5_findBestSquare_66 k21 v0 v2 v3 v4 h16
def fX5_findBestSquare_21 : Nat → Nat → Int32 → Int32 → Int32 → gx_H → Option (Unit × gx_H)
  | 0 => fun _ _ _ _ _ => none
  | n + 1 => bX5_findBestSquare_21 (fX5_findBestSquare_21 n)
def fX5_findBestSquare (v0 : Nat) (v1 : Nat) (v2 : Int32) (v3 : Int32) (h : gx_H) : Option (Unit × gx_H) :=
  (gx_isO h v0 4).bind fun _ =>
  (gx_fR h v0 4 0).bind fun a1 =>
  gx_bd (fX0_copy a1 v1 h) fun u3 h2 =>
  (gx_pF h2 v0 4 6 (.int (-1 : Int32))).bind fun h4 =>
  (gx_pF h4 v0 4 7 (.int (-1 : Int32))).bind fun h5 =>
  fX5_findBestSquare_21 gx_N v0 v2 v3 (0 : Int32) h5
set_option maxRecDepth 100000 in
set_option maxHeartbeats 4000000 in
theorem gX5_findBestSquare_66 {E : gx_Env} {d : Nat} (k21 : Nat → Int32 → Int32 → Int32 → gx_H → Option (Unit × gx_H)) (hk21 : ∀ (v0 : Nat) (v2 : Int32) (v3 : Int32) (v4 : Int32) (h : gx_H), gx_G E RX5 cX5_findBestSquare 5 none false (d + 13) 0 0 21 [some (.ref v0), none, some (.int v2), some (.int v3), some (.int v4)] [] h (fun _ : Unit => none) (k21 v0 v2 v3 v4 h))  : ∀ (v0 : Nat) (v2 : Int32) (v3 : Int32) (v4 : Int32) (h : gx_H), gx_G E RX5 cX5_findBestSquare 5 none false (d + 13) 0 0 66 [some (.ref v0), none, some (.int v2), some (.int v3), some (.int v4)] [] h (fun _ : Unit => none) (fX5_findBestSquare_66 k21 v0 v2 v3 v4 h) := by
  intro v0 v2 v3 v4 h
  unfold fX5_findBestSquare_66
  refine gx_iinc (1 : Int32) [some (.ref v0), none, some (.int v2), some (.int v3), some (.int (v4 + (1 : Int32)))] dX5_findBestSquare_66 rfl (by decide) (by decide) rfl ?_
  refine gx_goto 21 dX5_findBestSquare_69 (by decide) ?_
  exact gx_sub (hk21 v0 v2 v3 (v4 + (1 : Int32)) h) (And.intro rfl (And.intro rfl (And.intro rfl (And.intro rfl True.intro))))
set_option maxRecDepth 100000 in
set_option maxHeartbeats 4000000 in
theorem gbX5_findBestSquare_21 {E : gx_Env} {d : Nat}  (k21 : Nat → Int32 → Int32 → Int32 → gx_H → Option (Unit × gx_H)) (hk21 : ∀ (v0 : Nat) (v2 : Int32) (v3 : Int32) (v4 : Int32) (h : gx_H), gx_G E RX5 cX5_findBestSquare 5 none false (d + 13) 0 0 21 [some (.ref v0), none, some (.int v2), some (.int v3), some (.int v4)] [] h (fun _ : Unit => none) (k21 v0 v2 v3 v4 h))  : ∀ (v0 : Nat) (v2 : Int32) (v3 : Int32) (v4 : Int32) (h : gx_H), gx_G E RX5 cX5_findBestSquare 5 none false (d + 13) 0 0 21 [some (.ref v0), none, some (.int v2), some (.int v3), some (.int v4)] [] h (fun _ : Unit => none) (bX5_findBestSquare_21 k21 v0 v2 v3 v4 h) := by
  intro v0 v2 v3 v4 h
  unfold bX5_findBestSquare_21
  refine gx_iload dX5_findBestSquare_21 rfl ?_
  refine gx_aload_n 0 dX5_findBestSquare_23 rfl rfl ?_
  refine gx_getR kf_RX5_12 dX5_findBestSquare_24 (fun a6 => ?_)
  refine gx_getI kf_RX5_82 dX5_findBestSquare_27 (fun x7 => ?_)
  refine gx_icmp_ge 72 dX5_findBestSquare_30 (by decide) (fun _ => ?_) (fun _ => ?_)
  · exact gx_vret dX5_findBestSquare_72 rfl
  · refine gx_aload_n 0 dX5_findBestSquare_33 rfl rfl ?_
    refine gx_iload_n 2 dX5_findBestSquare_34 rfl rfl ?_
    refine gx_iload dX5_findBestSquare_35 rfl ?_
    refine gx_iload_n 3 dX5_findBestSquare_37 rfl rfl ?_
    refine gx_callV (ci := 4) (bc := 0) (bs := 0) (mc := 0) (ms := 0) (em' := (fun _ : Unit => none)) [.int v2, .int v4, .int v3] kc_RX5_78 rfl dX5_findBestSquare_38 rfl rfl (gx_w8 rfl) (fun x q => (gx_isO_of (by unfold fX5_spreadFrom at q; exact q)).2) (fun _ _ q => okX5_spreadFrom d q) (fun u9 h8 => ?_)
    refine gx_aload_n 0 dX5_findBestSquare_41 rfl rfl ?_
    refine gx_callV (ci := 4) (bc := 0) (bs := 0) (mc := 0) (ms := 0) (em' := (fun x : Int32 => some (.int x))) [] kc_RX5_85 rfl dX5_findBestSquare_42 rfl rfl (gx_w8 rfl) (fun x q => (gx_isO_of (by unfold fX5_rowsHome at q; exact q)).2) (fun _ _ q => okX5_rowsHome (d + 11) q) (fun x11 h10 => ?_)
    refine gx_aload_n 0 dX5_findBestSquare_45 rfl rfl ?_
    refine gx_getI kf_RX5_45 dX5_findBestSquare_46 (fun x12 => ?_)
    refine gx_icmp_lt 66 dX5_findBestSquare_49 (by decide) (fun _ => ?_) (fun _ => ?_)
    · exact gx_sub (gX5_findBestSquare_66 k21 hk21 v0 v2 v3 v4 h10) (And.intro rfl (And.intro rfl (And.intro rfl (And.intro rfl True.intro))))
    · refine gx_aload_n 0 dX5_findBestSquare_52 rfl rfl ?_
      refine gx_iload dX5_findBestSquare_53 rfl ?_
      refine gx_putI kp_RX5_41 (fun q => by cases q) dX5_findBestSquare_55 (fun h13 => ?_)
      refine gx_aload_n 0 dX5_findBestSquare_58 rfl rfl ?_
      refine gx_aload_n 0 dX5_findBestSquare_59 rfl rfl ?_
      refine gx_callV (ci := 4) (bc := 0) (bs := 0) (mc := 0) (ms := 0) (em' := (fun x : Int32 => some (.int x))) [] kc_RX5_85 rfl dX5_findBestSquare_60 rfl rfl (gx_w8 rfl) (fun x q => (gx_isO_of (by unfold fX5_rowsHome at q; exact q)).2) (fun _ _ q => okX5_rowsHome (d + 11) q) (fun x15 h14 => ?_)
      refine gx_putI kp_RX5_45 (fun q => by cases q) dX5_findBestSquare_63 (fun h16 => ?_)
      exact gx_sub (gX5_findBestSquare_66 k21 hk21 v0 v2 v3 v4 h16) (And.intro rfl (And.intro rfl (And.intro rfl (And.intro rfl True.intro))))
set_option maxRecDepth 100000 in
set_option maxHeartbeats 4000000 in
theorem gX5_findBestSquare_21 {E : gx_Env} {d : Nat}  : ∀ (n : Nat) (v0 : Nat) (v2 : Int32) (v3 : Int32) (v4 : Int32) (h : gx_H), gx_G E RX5 cX5_findBestSquare 5 none false (d + 13) 0 0 21 [some (.ref v0), none, some (.int v2), some (.int v3), some (.int v4)] [] h (fun _ : Unit => none) (fX5_findBestSquare_21 n v0 v2 v3 v4 h) := by
  intro n
  induction n with
  | zero => intro v0 v2 v3 v4 h; exact gx_none
  | succ n ih => exact gbX5_findBestSquare_21  (fX5_findBestSquare_21  n) ih
set_option maxRecDepth 100000 in
set_option maxHeartbeats 4000000 in
theorem geX5_findBestSquare {E : gx_Env} {d : Nat} (v0 : Nat) (v1 : Nat) (v2 : Int32) (v3 : Int32) (h : gx_H) : gx_G E RX5 cX5_findBestSquare 5 none false (d + 13) 0 0 0 [some (.ref v0), some (.ref v1), some (.int v2), some (.int v3), none] [] h (fun _ : Unit => none) (fX5_findBestSquare v0 v1 v2 v3 h) := by
  unfold fX5_findBestSquare
  refine gx_bind fun _ _ => ?_
  refine gx_aload_n 0 dX5_findBestSquare_0 rfl rfl ?_
  refine gx_getR kf_RX5_12 dX5_findBestSquare_1 (fun a1 => ?_)
  refine gx_aload_n 1 dX5_findBestSquare_4 rfl rfl ?_
  refine gx_callV (ci := 0) (bc := 0) (bs := 0) (mc := 0) (ms := 0) (em' := (fun _ : Unit => none)) [.ref v1] kc_RX5_48 rfl dX5_findBestSquare_5 rfl rfl (gx_w8 rfl) (fun x q => (gx_isO_of (by unfold fX0_copy at q; exact q)).2) (fun _ _ q => okX0_copy (d + 12) q) (fun u3 h2 => ?_)
  refine gx_aload_n 0 dX5_findBestSquare_8 rfl rfl ?_
  refine gx_iconst (-1 : Int32) dX5_findBestSquare_9 (by decide) ?_
  refine gx_putI kp_RX5_41 (fun q => by cases q) dX5_findBestSquare_10 (fun h4 => ?_)
  refine gx_aload_n 0 dX5_findBestSquare_13 rfl rfl ?_
  refine gx_iconst (-1 : Int32) dX5_findBestSquare_14 (by decide) ?_
  refine gx_putI kp_RX5_45 (fun q => by cases q) dX5_findBestSquare_15 (fun h5 => ?_)
  refine gx_iconst (0 : Int32) dX5_findBestSquare_18 (by decide) ?_
  refine gx_istore [some (.ref v0), some (.ref v1), some (.int v2), some (.int v3), some (.int (0 : Int32))] dX5_findBestSquare_19 (by decide) rfl ?_
  exact gx_sub (gX5_findBestSquare_21 gx_N v0 v2 v3 (0 : Int32) h5) (And.intro rfl (And.intro rfl (And.intro rfl (And.intro rfl True.intro))))
theorem okX5_findBestSquare {E : gx_Env} (d : Nat) {v0 : Nat} {v1 : Nat} {v2 : Int32} {v3 : Int32} {h : gx_H} {r : Unit} {h1 : gx_H} (q : fX5_findBestSquare v0 v1 v2 v3 h = some (r, h1)) : gx_M E yX5_findBestSquare cX5_findBestSquare 5 none (d + 13) 0 0 [.ref v0, .ref v1, .int v2, .int v3] h ((fun _ : Unit => none) r) h1 := gx_meth (y := yX5_findBestSquare) (cc := cX5_findBestSquare) (nL := 5) (em := (fun _ : Unit => none)) (ini := false) [.ref v0, .ref v1, .int v2, .int v3] (by decide) (by simp [gx_sl]) (fun q => by cases q) (geX5_findBestSquare v0 v1 v2 v3 h) q
theorem dX5_findWorstLink_0 : decode cX5_findWorstLink 0 = .ok (.aload_n 0, 1) := by decide +kernel
theorem dX5_findWorstLink_1 : decode cX5_findWorstLink 1 = .ok (.getfield 12, 3) := by decide +kernel
theorem dX5_findWorstLink_4 : decode cX5_findWorstLink 4 = .ok (.aload_n 1, 1) := by decide +kernel
theorem dX5_findWorstLink_5 : decode cX5_findWorstLink 5 = .ok (.invokevirtual 48, 3) := by decide +kernel
theorem dX5_findWorstLink_8 : decode cX5_findWorstLink 8 = .ok (.aload_n 0, 1) := by decide +kernel
theorem dX5_findWorstLink_9 : decode cX5_findWorstLink 9 = .ok (.iconst (-1), 1) := by decide +kernel
theorem dX5_findWorstLink_10 : decode cX5_findWorstLink 10 = .ok (.putfield 41, 3) := by decide +kernel
theorem dX5_findWorstLink_13 : decode cX5_findWorstLink 13 = .ok (.aload_n 0, 1) := by decide +kernel
theorem dX5_findWorstLink_14 : decode cX5_findWorstLink 14 = .ok (.iconst (-1), 1) := by decide +kernel
theorem dX5_findWorstLink_15 : decode cX5_findWorstLink 15 = .ok (.putfield 45, 3) := by decide +kernel
theorem dX5_findWorstLink_18 : decode cX5_findWorstLink 18 = .ok (.iconst 0, 1) := by decide +kernel
theorem dX5_findWorstLink_19 : decode cX5_findWorstLink 19 = .ok (.istore 4, 2) := by decide +kernel
theorem dX5_findWorstLink_21 : decode cX5_findWorstLink 21 = .ok (.iload 4, 2) := by decide +kernel
theorem dX5_findWorstLink_23 : decode cX5_findWorstLink 23 = .ok (.aload_n 0, 1) := by decide +kernel
theorem dX5_findWorstLink_24 : decode cX5_findWorstLink 24 = .ok (.getfield 12, 3) := by decide +kernel
theorem dX5_findWorstLink_27 : decode cX5_findWorstLink 27 = .ok (.getfield 89, 3) := by decide +kernel
theorem dX5_findWorstLink_30 : decode cX5_findWorstLink 30 = .ok (.if_icmp .ge 84, 3) := by decide +kernel
theorem dX5_findWorstLink_33 : decode cX5_findWorstLink 33 = .ok (.aload_n 0, 1) := by decide +kernel
theorem dX5_findWorstLink_34 : decode cX5_findWorstLink 34 = .ok (.getfield 12, 3) := by decide +kernel
theorem dX5_findWorstLink_37 : decode cX5_findWorstLink 37 = .ok (.getfield 92, 3) := by decide +kernel
theorem dX5_findWorstLink_40 : decode cX5_findWorstLink 40 = .ok (.iload 4, 2) := by decide +kernel
theorem dX5_findWorstLink_42 : decode cX5_findWorstLink 42 = .ok (.iaload, 1) := by decide +kernel
theorem dX5_findWorstLink_43 : decode cX5_findWorstLink 43 = .ok (.istore 5, 2) := by decide +kernel
theorem dX5_findWorstLink_45 : decode cX5_findWorstLink 45 = .ok (.aload_n 0, 1) := by decide +kernel
theorem dX5_findWorstLink_46 : decode cX5_findWorstLink 46 = .ok (.getfield 12, 3) := by decide +kernel
theorem dX5_findWorstLink_49 : decode cX5_findWorstLink 49 = .ok (.getfield 92, 3) := by decide +kernel
theorem dX5_findWorstLink_52 : decode cX5_findWorstLink 52 = .ok (.iload 4, 2) := by decide +kernel
theorem dX5_findWorstLink_54 : decode cX5_findWorstLink 54 = .ok (.iconst (-1), 1) := by decide +kernel
theorem dX5_findWorstLink_55 : decode cX5_findWorstLink 55 = .ok (.iastore, 1) := by decide +kernel
theorem dX5_findWorstLink_56 : decode cX5_findWorstLink 56 = .ok (.aload_n 0, 1) := by decide +kernel
theorem dX5_findWorstLink_57 : decode cX5_findWorstLink 57 = .ok (.iload_n 2, 1) := by decide +kernel
theorem dX5_findWorstLink_58 : decode cX5_findWorstLink 58 = .ok (.aload_n 0, 1) := by decide +kernel
theorem dX5_findWorstLink_59 : decode cX5_findWorstLink 59 = .ok (.getfield 12, 3) := by decide +kernel
theorem dX5_findWorstLink_62 : decode cX5_findWorstLink 62 = .ok (.getfield 75, 3) := by decide +kernel
theorem dX5_findWorstLink_65 : decode cX5_findWorstLink 65 = .ok (.iload_n 2, 1) := by decide +kernel
theorem dX5_findWorstLink_66 : decode cX5_findWorstLink 66 = .ok (.iaload, 1) := by decide +kernel
theorem dX5_findWorstLink_67 : decode cX5_findWorstLink 67 = .ok (.iload_n 3, 1) := by decide +kernel
theorem dX5_findWorstLink_68 : decode cX5_findWorstLink 68 = .ok (.invokevirtual 78, 3) := by decide +kernel
theorem dX5_findWorstLink_71 : decode cX5_findWorstLink 71 = .ok (.aload_n 0, 1) := by decide +kernel
theorem dX5_findWorstLink_72 : decode cX5_findWorstLink 72 = .ok (.getfield 12, 3) := by decide +kernel
theorem dX5_findWorstLink_75 : decode cX5_findWorstLink 75 = .ok (.getfield 92, 3) := by decide +kernel
theorem dX5_findWorstLink_78 : decode cX5_findWorstLink 78 = .ok (.iload 4, 2) := by decide +kernel
theorem dX5_findWorstLink_80 : decode cX5_findWorstLink 80 = .ok (.iload 5, 2) := by decide +kernel
theorem dX5_findWorstLink_82 : decode cX5_findWorstLink 82 = .ok (.iastore, 1) := by decide +kernel
theorem dX5_findWorstLink_83 : decode cX5_findWorstLink 83 = .ok (.aload_n 0, 1) := by decide +kernel
theorem dX5_findWorstLink_84 : decode cX5_findWorstLink 84 = .ok (.invokevirtual 85, 3) := by decide +kernel
theorem dX5_findWorstLink_87 : decode cX5_findWorstLink 87 = .ok (.aload_n 0, 1) := by decide +kernel
theorem dX5_findWorstLink_88 : decode cX5_findWorstLink 88 = .ok (.getfield 45, 3) := by decide +kernel
theorem dX5_findWorstLink_91 : decode cX5_findWorstLink 91 = .ok (.if_icmp .le 17, 3) := by decide +kernel
theorem dX5_findWorstLink_94 : decode cX5_findWorstLink 94 = .ok (.aload_n 0, 1) := by decide +kernel
theorem dX5_findWorstLink_95 : decode cX5_findWorstLink 95 = .ok (.iload 4, 2) := by decide +kernel
theorem dX5_findWorstLink_97 : decode cX5_findWorstLink 97 = .ok (.putfield 41, 3) := by decide +kernel
theorem dX5_findWorstLink_100 : decode cX5_findWorstLink 100 = .ok (.aload_n 0, 1) := by decide +kernel
theorem dX5_findWorstLink_101 : decode cX5_findWorstLink 101 = .ok (.aload_n 0, 1) := by decide +kernel
theorem dX5_findWorstLink_102 : decode cX5_findWorstLink 102 = .ok (.invokevirtual 85, 3) := by decide +kernel
theorem dX5_findWorstLink_105 : decode cX5_findWorstLink 105 = .ok (.putfield 45, 3) := by decide +kernel
theorem dX5_findWorstLink_108 : decode cX5_findWorstLink 108 = .ok (.iinc 4 1, 3) := by decide +kernel
theorem dX5_findWorstLink_111 : decode cX5_findWorstLink 111 = .ok (.goto (-90), 3) := by decide +kernel
theorem dX5_findWorstLink_114 : decode cX5_findWorstLink 114 = .ok (.return_, 1) := by decide +kernel
def fX5_findWorstLink_108 (k21 : Nat → Int32 → Int32 → Int32 → gx_H → Option (Unit × gx_H)) (v0 : Nat) (v2 : Int32) (v3 : Int32) (v4 : Int32) (h : gx_H) : Option (Unit × gx_H) :=
  k21 v0 v2 v3 (v4 + (1 : Int32)) h
def bX5_findWorstLink_21 (k21 : Nat → Int32 → Int32 → Int32 → gx_H → Option (Unit × gx_H)) (v0 : Nat) (v2 : Int32) (v3 : Int32) (v4 : Int32) (h : gx_H) : Option (Unit × gx_H) :=
  (gx_fR h v0 4 0).bind fun a6 =>
  (gx_fI h a6 0 2).bind fun x7 =>
  if x7 ≤ v4 then
    some ((), h)
  else
    (gx_fR h v0 4 0).bind fun a8 =>
    (gx_fR h a8 0 5).bind fun a9 =>
    (gx_aI 0 h a9 v4).bind fun x10 =>
    (gx_fR h v0 4 0).bind fun a11 =>
    (gx_fR h a11 0 5).bind fun a12 =>
    (gx_sI 0 h a12 v4 (-1 : Int32)).bind fun h13 =>
    (gx_fR h13 v0 4 0).bind fun a14 =>
    (gx_fR h13 a14 0 9).bind fun a15 =>
    (gx_aI 0 h13 a15 v2).bind fun x16 =>
    gx_bd (fX5_spreadFrom v0 v2 x16 v3 h13) fun u18 h17 =>
    (gx_fR h17 v0 4 0).bind fun a19 =>
    (gx_fR h17 a19 0 5).bind fun a20 =>
    (gx_sI 0 h17 a20 v4 x10).bind fun h21 =>
    gx_bd (fX5_rowsHome v0 h21) fun x23 h22 =>
    (gx_fI h22 v0 4 7).bind fun x24 =>
    if x23 ≤ x24 then
      fX5_findWorstLink_108 k21 v0 v2 v3 v4 h22
    else
      (gx_pF h22 v0 4 6 (.int v4)).bind fun h25 =>
      gx_bd (fX5_rowsHome v0 h25) fun x27 h26 =>
      (gx_pF h26 v0 4 7 (.int x27)).bind fun h28 =>
      fX5_findWorstLink_108 k21 v0 v2 v3 v4 h28
def fX5_findWorstLink_21 : Nat → Nat → Int32 → Int32 → Int32 → gx_H → Option (Unit × gx_H)
  | 0 => fun _ _ _ _ _ => none
  | n + 1 => bX5_findWorstLink_21 (fX5_findWorstLink_21 n)
def fX5_findWorstLink (v0 : Nat) (v1 : Nat) (v2 : Int32) (v3 : Int32) (h : gx_H) : Option (Unit × gx_H) :=
  (gx_isO h v0 4).bind fun _ =>
  (gx_fR h v0 4 0).bind fun a1 =>
  gx_bd (fX0_copy a1 v1 h) fun u3 h2 =>
  (gx_pF h2 v0 4 6 (.int (-1 : Int32))).bind fun h4 =>
  (gx_pF h4 v0 4 7 (.int (-1 : Int32))).bind fun h5 =>
  fX5_findWorstLink_21 gx_N v0 v2 v3 (0 : Int32) h5
set_option maxRecDepth 100000 in
set_option maxHeartbeats 4000000 in
theorem gX5_findWorstLink_108 {E : gx_Env} {d : Nat} (k21 : Nat → Int32 → Int32 → Int32 → gx_H → Option (Unit × gx_H)) (hk21 : ∀ (v0 : Nat) (v2 : Int32) (v3 : Int32) (v4 : Int32) (h : gx_H), gx_G E RX5 cX5_findWorstLink 6 none false (d + 13) 0 0 21 [some (.ref v0), none, some (.int v2), some (.int v3), some (.int v4), none] [] h (fun _ : Unit => none) (k21 v0 v2 v3 v4 h))  : ∀ (v0 : Nat) (v2 : Int32) (v3 : Int32) (v4 : Int32) (h : gx_H), gx_G E RX5 cX5_findWorstLink 6 none false (d + 13) 0 0 108 [some (.ref v0), none, some (.int v2), some (.int v3), some (.int v4), none] [] h (fun _ : Unit => none) (fX5_findWorstLink_108 k21 v0 v2 v3 v4 h) := by
  intro v0 v2 v3 v4 h
  unfold fX5_findWorstLink_108
  refine gx_iinc (1 : Int32) [some (.ref v0), none, some (.int v2), some (.int v3), some (.int (v4 + (1 : Int32))), none] dX5_findWorstLink_108 rfl (by decide) (by decide) rfl ?_
  refine gx_goto 21 dX5_findWorstLink_111 (by decide) ?_
  exact gx_sub (hk21 v0 v2 v3 (v4 + (1 : Int32)) h) (And.intro rfl (And.intro rfl (And.intro rfl (And.intro rfl True.intro))))
set_option maxRecDepth 100000 in
set_option maxHeartbeats 4000000 in
theorem gbX5_findWorstLink_21 {E : gx_Env} {d : Nat}  (k21 : Nat → Int32 → Int32 → Int32 → gx_H → Option (Unit × gx_H)) (hk21 : ∀ (v0 : Nat) (v2 : Int32) (v3 : Int32) (v4 : Int32) (h : gx_H), gx_G E RX5 cX5_findWorstLink 6 none false (d + 13) 0 0 21 [some (.ref v0), none, some (.int v2), some (.int v3), some (.int v4), none] [] h (fun _ : Unit => none) (k21 v0 v2 v3 v4 h))  : ∀ (v0 : Nat) (v2 : Int32) (v3 : Int32) (v4 : Int32) (h : gx_H), gx_G E RX5 cX5_findWorstLink 6 none false (d + 13) 0 0 21 [some (.ref v0), none, some (.int v2), some (.int v3), some (.int v4), none] [] h (fun _ : Unit => none) (bX5_findWorstLink_21 k21 v0 v2 v3 v4 h) := by
  intro v0 v2 v3 v4 h
  unfold bX5_findWorstLink_21
  refine gx_iload dX5_findWorstLink_21 rfl ?_
  refine gx_aload_n 0 dX5_findWorstLink_23 rfl rfl ?_
  refine gx_getR kf_RX5_12 dX5_findWorstLink_24 (fun a6 => ?_)
  refine gx_getI kf_RX5_89 dX5_findWorstLink_27 (fun x7 => ?_)
  refine gx_icmp_ge 114 dX5_findWorstLink_30 (by decide) (fun _ => ?_) (fun _ => ?_)
  · exact gx_vret dX5_findWorstLink_114 rfl
  · refine gx_aload_n 0 dX5_findWorstLink_33 rfl rfl ?_
    refine gx_getR kf_RX5_12 dX5_findWorstLink_34 (fun a8 => ?_)
    refine gx_getR kf_RX5_92 dX5_findWorstLink_37 (fun a9 => ?_)
    refine gx_iload dX5_findWorstLink_40 rfl ?_
    refine gx_iald dX5_findWorstLink_42 (fun x10 => ?_)
    refine gx_istore [some (.ref v0), none, some (.int v2), some (.int v3), some (.int v4), some (.int x10)] dX5_findWorstLink_43 (by decide) rfl ?_
    refine gx_aload_n 0 dX5_findWorstLink_45 rfl rfl ?_
    refine gx_getR kf_RX5_12 dX5_findWorstLink_46 (fun a11 => ?_)
    refine gx_getR kf_RX5_92 dX5_findWorstLink_49 (fun a12 => ?_)
    refine gx_iload dX5_findWorstLink_52 rfl ?_
    refine gx_iconst (-1 : Int32) dX5_findWorstLink_54 (by decide) ?_
    refine gx_iast dX5_findWorstLink_55 (fun h13 => ?_)
    refine gx_aload_n 0 dX5_findWorstLink_56 rfl rfl ?_
    refine gx_iload_n 2 dX5_findWorstLink_57 rfl rfl ?_
    refine gx_aload_n 0 dX5_findWorstLink_58 rfl rfl ?_
    refine gx_getR kf_RX5_12 dX5_findWorstLink_59 (fun a14 => ?_)
    refine gx_getR kf_RX5_75 dX5_findWorstLink_62 (fun a15 => ?_)
    refine gx_iload_n 2 dX5_findWorstLink_65 rfl rfl ?_
    refine gx_iald dX5_findWorstLink_66 (fun x16 => ?_)
    refine gx_iload_n 3 dX5_findWorstLink_67 rfl rfl ?_
    refine gx_callV (ci := 4) (bc := 0) (bs := 0) (mc := 0) (ms := 0) (em' := (fun _ : Unit => none)) [.int v2, .int x16, .int v3] kc_RX5_78 rfl dX5_findWorstLink_68 rfl rfl (gx_w8 rfl) (fun x q => (gx_isO_of (by unfold fX5_spreadFrom at q; exact q)).2) (fun _ _ q => okX5_spreadFrom d q) (fun u18 h17 => ?_)
    refine gx_aload_n 0 dX5_findWorstLink_71 rfl rfl ?_
    refine gx_getR kf_RX5_12 dX5_findWorstLink_72 (fun a19 => ?_)
    refine gx_getR kf_RX5_92 dX5_findWorstLink_75 (fun a20 => ?_)
    refine gx_iload dX5_findWorstLink_78 rfl ?_
    refine gx_iload dX5_findWorstLink_80 rfl ?_
    refine gx_iast dX5_findWorstLink_82 (fun h21 => ?_)
    refine gx_aload_n 0 dX5_findWorstLink_83 rfl rfl ?_
    refine gx_callV (ci := 4) (bc := 0) (bs := 0) (mc := 0) (ms := 0) (em' := (fun x : Int32 => some (.int x))) [] kc_RX5_85 rfl dX5_findWorstLink_84 rfl rfl (gx_w8 rfl) (fun x q => (gx_isO_of (by unfold fX5_rowsHome at q; exact q)).2) (fun _ _ q => okX5_rowsHome (d + 11) q) (fun x23 h22 => ?_)
    refine gx_aload_n 0 dX5_findWorstLink_87 rfl rfl ?_
    refine gx_getI kf_RX5_45 dX5_findWorstLink_88 (fun x24 => ?_)
    refine gx_icmp_le 108 dX5_findWorstLink_91 (by decide) (fun _ => ?_) (fun _ => ?_)
    · exact gx_sub (gX5_findWorstLink_108 k21 hk21 v0 v2 v3 v4 h22) (And.intro rfl (And.intro rfl (And.intro rfl (And.intro rfl True.intro))))
    · refine gx_aload_n 0 dX5_findWorstLink_94 rfl rfl ?_
      refine gx_iload dX5_findWorstLink_95 rfl ?_
      refine gx_putI kp_RX5_41 (fun q => by cases q) dX5_findWorstLink_97 (fun h25 => ?_)
      refine gx_aload_n 0 dX5_findWorstLink_100 rfl rfl ?_
      refine gx_aload_n 0 dX5_findWorstLink_101 rfl rfl ?_
      refine gx_callV (ci := 4) (bc := 0) (bs := 0) (mc := 0) (ms := 0) (em' := (fun x : Int32 => some (.int x))) [] kc_RX5_85 rfl dX5_findWorstLink_102 rfl rfl (gx_w8 rfl) (fun x q => (gx_isO_of (by unfold fX5_rowsHome at q; exact q)).2) (fun _ _ q => okX5_rowsHome (d + 11) q) (fun x27 h26 => ?_)
      refine gx_putI kp_RX5_45 (fun q => by cases q) dX5_findWorstLink_105 (fun h28 => ?_)
      exact gx_sub (gX5_findWorstLink_108 k21 hk21 v0 v2 v3 v4 h28) (And.intro rfl (And.intro rfl (And.intro rfl (And.intro rfl True.intro))))
set_option maxRecDepth 100000 in
set_option maxHeartbeats 4000000 in
theorem gX5_findWorstLink_21 {E : gx_Env} {d : Nat}  : ∀ (n : Nat) (v0 : Nat) (v2 : Int32) (v3 : Int32) (v4 : Int32) (h : gx_H), gx_G E RX5 cX5_findWorstLink 6 none false (d + 13) 0 0 21 [some (.ref v0), none, some (.int v2), some (.int v3), some (.int v4), none] [] h (fun _ : Unit => none) (fX5_findWorstLink_21 n v0 v2 v3 v4 h) := by
  intro n
  induction n with
  | zero => intro v0 v2 v3 v4 h; exact gx_none
  | succ n ih => exact gbX5_findWorstLink_21  (fX5_findWorstLink_21  n) ih
set_option maxRecDepth 100000 in
set_option maxHeartbeats 4000000 in
theorem geX5_findWorstLink {E : gx_Env} {d : Nat} (v0 : Nat) (v1 : Nat) (v2 : Int32) (v3 : Int32) (h : gx_H) : gx_G E RX5 cX5_findWorstLink 6 none false (d + 13) 0 0 0 [some (.ref v0), some (.ref v1), some (.int v2), some (.int v3), none, none] [] h (fun _ : Unit => none) (fX5_findWorstLink v0 v1 v2 v3 h) := by
  unfold fX5_findWorstLink
  refine gx_bind fun _ _ => ?_
  refine gx_aload_n 0 dX5_findWorstLink_0 rfl rfl ?_
  refine gx_getR kf_RX5_12 dX5_findWorstLink_1 (fun a1 => ?_)
  refine gx_aload_n 1 dX5_findWorstLink_4 rfl rfl ?_
  refine gx_callV (ci := 0) (bc := 0) (bs := 0) (mc := 0) (ms := 0) (em' := (fun _ : Unit => none)) [.ref v1] kc_RX5_48 rfl dX5_findWorstLink_5 rfl rfl (gx_w8 rfl) (fun x q => (gx_isO_of (by unfold fX0_copy at q; exact q)).2) (fun _ _ q => okX0_copy (d + 12) q) (fun u3 h2 => ?_)
  refine gx_aload_n 0 dX5_findWorstLink_8 rfl rfl ?_
  refine gx_iconst (-1 : Int32) dX5_findWorstLink_9 (by decide) ?_
  refine gx_putI kp_RX5_41 (fun q => by cases q) dX5_findWorstLink_10 (fun h4 => ?_)
  refine gx_aload_n 0 dX5_findWorstLink_13 rfl rfl ?_
  refine gx_iconst (-1 : Int32) dX5_findWorstLink_14 (by decide) ?_
  refine gx_putI kp_RX5_45 (fun q => by cases q) dX5_findWorstLink_15 (fun h5 => ?_)
  refine gx_iconst (0 : Int32) dX5_findWorstLink_18 (by decide) ?_
  refine gx_istore [some (.ref v0), some (.ref v1), some (.int v2), some (.int v3), some (.int (0 : Int32)), none] dX5_findWorstLink_19 (by decide) rfl ?_
  exact gx_sub (gX5_findWorstLink_21 gx_N v0 v2 v3 (0 : Int32) h5) (And.intro rfl (And.intro rfl (And.intro rfl (And.intro rfl True.intro))))
theorem okX5_findWorstLink {E : gx_Env} (d : Nat) {v0 : Nat} {v1 : Nat} {v2 : Int32} {v3 : Int32} {h : gx_H} {r : Unit} {h1 : gx_H} (q : fX5_findWorstLink v0 v1 v2 v3 h = some (r, h1)) : gx_M E yX5_findWorstLink cX5_findWorstLink 6 none (d + 13) 0 0 [.ref v0, .ref v1, .int v2, .int v3] h ((fun _ : Unit => none) r) h1 := gx_meth (y := yX5_findWorstLink) (cc := cX5_findWorstLink) (nL := 6) (em := (fun _ : Unit => none)) (ini := false) [.ref v0, .ref v1, .int v2, .int v3] (by decide) (by simp [gx_sl]) (fun q => by cases q) (geX5_findWorstLink v0 v1 v2 v3 h) q
theorem dX5_rowsAheadOn_0 : decode cX5_rowsAheadOn 0 = .ok (.iload_n 3, 1) := by decide +kernel
theorem dX5_rowsAheadOn_1 : decode cX5_rowsAheadOn 1 = .ok (.iload 4, 2) := by decide +kernel
theorem dX5_rowsAheadOn_3 : decode cX5_rowsAheadOn 3 = .ok (.if_icmp .ge 8, 3) := by decide +kernel
theorem dX5_rowsAheadOn_6 : decode cX5_rowsAheadOn 6 = .ok (.iload_n 3, 1) := by decide +kernel
theorem dX5_rowsAheadOn_7 : decode cX5_rowsAheadOn 7 = .ok (.iconst 5, 1) := by decide +kernel
theorem dX5_rowsAheadOn_8 : decode cX5_rowsAheadOn 8 = .ok (.if_icmp .lt 30, 3) := by decide +kernel
theorem dX5_rowsAheadOn_11 : decode cX5_rowsAheadOn 11 = .ok (.aload_n 0, 1) := by decide +kernel
theorem dX5_rowsAheadOn_12 : decode cX5_rowsAheadOn 12 = .ok (.getfield 12, 3) := by decide +kernel
theorem dX5_rowsAheadOn_15 : decode cX5_rowsAheadOn 15 = .ok (.getfield 75, 3) := by decide +kernel
theorem dX5_rowsAheadOn_18 : decode cX5_rowsAheadOn 18 = .ok (.iload_n 1, 1) := by decide +kernel
theorem dX5_rowsAheadOn_19 : decode cX5_rowsAheadOn 19 = .ok (.iaload, 1) := by decide +kernel
theorem dX5_rowsAheadOn_20 : decode cX5_rowsAheadOn 20 = .ok (.aload_n 0, 1) := by decide +kernel
theorem dX5_rowsAheadOn_21 : decode cX5_rowsAheadOn 21 = .ok (.getfield 12, 3) := by decide +kernel
theorem dX5_rowsAheadOn_24 : decode cX5_rowsAheadOn 24 = .ok (.getfield 75, 3) := by decide +kernel
theorem dX5_rowsAheadOn_27 : decode cX5_rowsAheadOn 27 = .ok (.iload_n 2, 1) := by decide +kernel
theorem dX5_rowsAheadOn_28 : decode cX5_rowsAheadOn 28 = .ok (.iaload, 1) := by decide +kernel
theorem dX5_rowsAheadOn_29 : decode cX5_rowsAheadOn 29 = .ok (.if_icmp .le 7, 3) := by decide +kernel
theorem dX5_rowsAheadOn_32 : decode cX5_rowsAheadOn 32 = .ok (.iconst 1, 1) := by decide +kernel
theorem dX5_rowsAheadOn_33 : decode cX5_rowsAheadOn 33 = .ok (.goto 4, 3) := by decide +kernel
theorem dX5_rowsAheadOn_36 : decode cX5_rowsAheadOn 36 = .ok (.iconst 0, 1) := by decide +kernel
theorem dX5_rowsAheadOn_37 : decode cX5_rowsAheadOn 37 = .ok (.ireturn, 1) := by decide +kernel
theorem dX5_rowsAheadOn_38 : decode cX5_rowsAheadOn 38 = .ok (.iload_n 3, 1) := by decide +kernel
theorem dX5_rowsAheadOn_39 : decode cX5_rowsAheadOn 39 = .ok (.iconst 2, 1) := by decide +kernel
theorem dX5_rowsAheadOn_40 : decode cX5_rowsAheadOn 40 = .ok (.irem, 1) := by decide +kernel
theorem dX5_rowsAheadOn_41 : decode cX5_rowsAheadOn 41 = .ok (.ifCond .ne 7, 3) := by decide +kernel
theorem dX5_rowsAheadOn_44 : decode cX5_rowsAheadOn 44 = .ok (.iload_n 1, 1) := by decide +kernel
theorem dX5_rowsAheadOn_45 : decode cX5_rowsAheadOn 45 = .ok (.goto 4, 3) := by decide +kernel
theorem dX5_rowsAheadOn_48 : decode cX5_rowsAheadOn 48 = .ok (.iload_n 2, 1) := by decide +kernel
theorem dX5_rowsAheadOn_49 : decode cX5_rowsAheadOn 49 = .ok (.istore 5, 2) := by decide +kernel
theorem dX5_rowsAheadOn_51 : decode cX5_rowsAheadOn 51 = .ok (.aload_n 0, 1) := by decide +kernel
theorem dX5_rowsAheadOn_52 : decode cX5_rowsAheadOn 52 = .ok (.getfield 12, 3) := by decide +kernel
theorem dX5_rowsAheadOn_55 : decode cX5_rowsAheadOn 55 = .ok (.iload 5, 2) := by decide +kernel
theorem dX5_rowsAheadOn_57 : decode cX5_rowsAheadOn 57 = .ok (.invokevirtual 60, 3) := by decide +kernel
theorem dX5_rowsAheadOn_60 : decode cX5_rowsAheadOn 60 = .ok (.ifCond .eq 23, 3) := by decide +kernel
theorem dX5_rowsAheadOn_63 : decode cX5_rowsAheadOn 63 = .ok (.aload_n 0, 1) := by decide +kernel
theorem dX5_rowsAheadOn_64 : decode cX5_rowsAheadOn 64 = .ok (.getfield 12, 3) := by decide +kernel
theorem dX5_rowsAheadOn_67 : decode cX5_rowsAheadOn 67 = .ok (.getfield 64, 3) := by decide +kernel
theorem dX5_rowsAheadOn_70 : decode cX5_rowsAheadOn 70 = .ok (.aload_n 0, 1) := by decide +kernel
theorem dX5_rowsAheadOn_71 : decode cX5_rowsAheadOn 71 = .ok (.iload_n 1, 1) := by decide +kernel
theorem dX5_rowsAheadOn_72 : decode cX5_rowsAheadOn 72 = .ok (.iload_n 2, 1) := by decide +kernel
theorem dX5_rowsAheadOn_73 : decode cX5_rowsAheadOn 73 = .ok (.iload_n 3, 1) := by decide +kernel
theorem dX5_rowsAheadOn_74 : decode cX5_rowsAheadOn 74 = .ok (.iconst 1, 1) := by decide +kernel
theorem dX5_rowsAheadOn_75 : decode cX5_rowsAheadOn 75 = .ok (.iadd, 1) := by decide +kernel
theorem dX5_rowsAheadOn_76 : decode cX5_rowsAheadOn 76 = .ok (.iload 4, 2) := by decide +kernel
theorem dX5_rowsAheadOn_78 : decode cX5_rowsAheadOn 78 = .ok (.invokestatic 110, 3) := by decide +kernel
theorem dX5_rowsAheadOn_81 : decode cX5_rowsAheadOn 81 = .ok (.imul, 1) := by decide +kernel
theorem dX5_rowsAheadOn_82 : decode cX5_rowsAheadOn 82 = .ok (.ireturn, 1) := by decide +kernel
theorem dX5_rowsAheadOn_83 : decode cX5_rowsAheadOn 83 = .ok (.iconst 0, 1) := by decide +kernel
theorem dX5_rowsAheadOn_84 : decode cX5_rowsAheadOn 84 = .ok (.istore 6, 2) := by decide +kernel
theorem dX5_rowsAheadOn_86 : decode cX5_rowsAheadOn 86 = .ok (.iconst 1, 1) := by decide +kernel
theorem dX5_rowsAheadOn_87 : decode cX5_rowsAheadOn 87 = .ok (.istore 7, 2) := by decide +kernel
theorem dX5_rowsAheadOn_89 : decode cX5_rowsAheadOn 89 = .ok (.iload 7, 2) := by decide +kernel
theorem dX5_rowsAheadOn_91 : decode cX5_rowsAheadOn 91 = .ok (.aload_n 0, 1) := by decide +kernel
theorem dX5_rowsAheadOn_92 : decode cX5_rowsAheadOn 92 = .ok (.getfield 12, 3) := by decide +kernel
theorem dX5_rowsAheadOn_95 : decode cX5_rowsAheadOn 95 = .ok (.getfield 64, 3) := by decide +kernel
theorem dX5_rowsAheadOn_98 : decode cX5_rowsAheadOn 98 = .ok (.if_icmp .gt 55, 3) := by decide +kernel
theorem dX5_rowsAheadOn_101 : decode cX5_rowsAheadOn 101 = .ok (.aload_n 0, 1) := by decide +kernel
theorem dX5_rowsAheadOn_102 : decode cX5_rowsAheadOn 102 = .ok (.getfield 12, 3) := by decide +kernel
theorem dX5_rowsAheadOn_105 : decode cX5_rowsAheadOn 105 = .ok (.iload 5, 2) := by decide +kernel
theorem dX5_rowsAheadOn_107 : decode cX5_rowsAheadOn 107 = .ok (.iload 7, 2) := by decide +kernel
theorem dX5_rowsAheadOn_109 : decode cX5_rowsAheadOn 109 = .ok (.aload_n 0, 1) := by decide +kernel
theorem dX5_rowsAheadOn_110 : decode cX5_rowsAheadOn 110 = .ok (.getfield 24, 3) := by decide +kernel
theorem dX5_rowsAheadOn_113 : decode cX5_rowsAheadOn 113 = .ok (.iload_n 3, 1) := by decide +kernel
theorem dX5_rowsAheadOn_114 : decode cX5_rowsAheadOn 114 = .ok (.aaload, 1) := by decide +kernel
theorem dX5_rowsAheadOn_115 : decode cX5_rowsAheadOn 115 = .ok (.invokevirtual 67, 3) := by decide +kernel
theorem dX5_rowsAheadOn_118 : decode cX5_rowsAheadOn 118 = .ok (.iload 6, 2) := by decide +kernel
theorem dX5_rowsAheadOn_120 : decode cX5_rowsAheadOn 120 = .ok (.aload_n 0, 1) := by decide +kernel
theorem dX5_rowsAheadOn_121 : decode cX5_rowsAheadOn 121 = .ok (.iload_n 1, 1) := by decide +kernel
theorem dX5_rowsAheadOn_122 : decode cX5_rowsAheadOn 122 = .ok (.iload_n 2, 1) := by decide +kernel
theorem dX5_rowsAheadOn_123 : decode cX5_rowsAheadOn 123 = .ok (.iload_n 3, 1) := by decide +kernel
theorem dX5_rowsAheadOn_124 : decode cX5_rowsAheadOn 124 = .ok (.iconst 1, 1) := by decide +kernel
theorem dX5_rowsAheadOn_125 : decode cX5_rowsAheadOn 125 = .ok (.iadd, 1) := by decide +kernel
theorem dX5_rowsAheadOn_126 : decode cX5_rowsAheadOn 126 = .ok (.iload 4, 2) := by decide +kernel
theorem dX5_rowsAheadOn_128 : decode cX5_rowsAheadOn 128 = .ok (.invokestatic 110, 3) := by decide +kernel
theorem dX5_rowsAheadOn_131 : decode cX5_rowsAheadOn 131 = .ok (.iadd, 1) := by decide +kernel
theorem dX5_rowsAheadOn_132 : decode cX5_rowsAheadOn 132 = .ok (.istore 6, 2) := by decide +kernel
theorem dX5_rowsAheadOn_134 : decode cX5_rowsAheadOn 134 = .ok (.aload_n 0, 1) := by decide +kernel
theorem dX5_rowsAheadOn_135 : decode cX5_rowsAheadOn 135 = .ok (.getfield 12, 3) := by decide +kernel
theorem dX5_rowsAheadOn_138 : decode cX5_rowsAheadOn 138 = .ok (.aload_n 0, 1) := by decide +kernel
theorem dX5_rowsAheadOn_139 : decode cX5_rowsAheadOn 139 = .ok (.getfield 24, 3) := by decide +kernel
theorem dX5_rowsAheadOn_142 : decode cX5_rowsAheadOn 142 = .ok (.iload_n 3, 1) := by decide +kernel
theorem dX5_rowsAheadOn_143 : decode cX5_rowsAheadOn 143 = .ok (.aaload, 1) := by decide +kernel
theorem dX5_rowsAheadOn_144 : decode cX5_rowsAheadOn 144 = .ok (.invokevirtual 71, 3) := by decide +kernel
theorem dX5_rowsAheadOn_147 : decode cX5_rowsAheadOn 147 = .ok (.iinc 7 1, 3) := by decide +kernel
theorem dX5_rowsAheadOn_150 : decode cX5_rowsAheadOn 150 = .ok (.goto (-61), 3) := by decide +kernel
theorem dX5_rowsAheadOn_153 : decode cX5_rowsAheadOn 153 = .ok (.iload 6, 2) := by decide +kernel
theorem dX5_rowsAheadOn_155 : decode cX5_rowsAheadOn 155 = .ok (.ireturn, 1) := by decide +kernel
def fX5_rowsAheadOn_37 (kr : Nat → Int32 → Int32 → Int32 → Int32 → gx_H → Option (Int32 × gx_H)) (s0 : Int32) (h : gx_H) : Option (Int32 × gx_H) :=
  some (s0, h)
def fX5_rowsAheadOn_11 (kr : Nat → Int32 → Int32 → Int32 → Int32 → gx_H → Option (Int32 × gx_H)) (v0 : Nat) (v1 : Int32) (v2 : Int32) (h : gx_H) : Option (Int32 × gx_H) :=
  (gx_fR h v0 4 0).bind fun a2 =>
  (gx_fR h a2 0 9).bind fun a3 =>
  (gx_aI 0 h a3 v1).bind fun x4 =>
  (gx_fR h v0 4 0).bind fun a5 =>
  (gx_fR h a5 0 9).bind fun a6 =>
  (gx_aI 0 h a6 v2).bind fun x7 =>
  if x4 ≤ x7 then
    fX5_rowsAheadOn_37 kr (0 : Int32) h
  else
    fX5_rowsAheadOn_37 kr (1 : Int32) h
def bX5_rowsAheadOn_89 (kr : Nat → Int32 → Int32 → Int32 → Int32 → gx_H → Option (Int32 × gx_H)) (k89 : Nat → Int32 → Int32 → Int32 → Int32 → Int32 → Int32 → Int32 → gx_H → Option (Int32 × gx_H)) (v0 : Nat) (v1 : Int32) (v2 : Int32) (v3 : Int32) (v4 : Int32) (v5 : Int32) (v6 : Int32) (v7 : Int32) (h : gx_H) : Option (Int32 × gx_H) :=
  (gx_fR h v0 4 0).bind fun a15 =>
  (gx_fI h a15 0 1).bind fun x16 =>
  if x16 < v7 then
    some (v6, h)
  else
    (gx_fR h v0 4 0).bind fun a17 =>
    (gx_fR h v0 4 1).bind fun a18 =>
    (gx_aR 3 h a18 v3).bind fun a19 =>
    gx_bd (fX0_move a17 v5 v7 a19 h) fun u21 h20 =>
    gx_bd (kr v0 v1 v2 (v3 + (1 : Int32)) v4 h20) fun x23 h22 =>
    (gx_fR h22 v0 4 0).bind fun a24 =>
    (gx_fR h22 v0 4 1).bind fun a25 =>
    (gx_aR 3 h22 a25 v3).bind fun a26 =>
    gx_bd (fX0_takeBack a24 a26 h22) fun u28 h27 =>
    k89 v0 v1 v2 v3 v4 v5 (v6 + x23) (v7 + (1 : Int32)) h27
def fX5_rowsAheadOn_89 (kr : Nat → Int32 → Int32 → Int32 → Int32 → gx_H → Option (Int32 × gx_H)) : Nat → Nat → Int32 → Int32 → Int32 → Int32 → Int32 → Int32 → Int32 → gx_H → Option (Int32 × gx_H)
  | 0 => fun _ _ _ _ _ _ _ _ _ => none
  | n + 1 => bX5_rowsAheadOn_89 kr (fX5_rowsAheadOn_89 kr n)
def fX5_rowsAheadOn_49 (kr : Nat → Int32 → Int32 → Int32 → Int32 → gx_H → Option (Int32 × gx_H)) (v0 : Nat) (v1 : Int32) (v2 : Int32) (v3 : Int32) (v4 : Int32) (s0 : Int32) (h : gx_H) : Option (Int32 × gx_H) :=
  (gx_fR h v0 4 0).bind fun a8 =>
  gx_bd (fX0_isHome a8 s0 h) fun x10 h9 =>
  if x10 = 0 then
    fX5_rowsAheadOn_89 kr gx_N v0 v1 v2 v3 v4 s0 (0 : Int32) (1 : Int32) h9
  else
    (gx_fR h9 v0 4 0).bind fun a11 =>
    (gx_fI h9 a11 0 1).bind fun x12 =>
    gx_bd (kr v0 v1 v2 (v3 + (1 : Int32)) v4 h9) fun x14 h13 =>
    some ((x12 * x14), h13)
def eX5_rowsAheadOn (kr : Nat → Int32 → Int32 → Int32 → Int32 → gx_H → Option (Int32 × gx_H)) (v0 : Nat) (v1 : Int32) (v2 : Int32) (v3 : Int32) (v4 : Int32) (h : gx_H) : Option (Int32 × gx_H) :=
  if v4 ≤ v3 then
    fX5_rowsAheadOn_11 kr v0 v1 v2 h
  else
    if v3 < (5 : Int32) then
      (gx_rI v3 (2 : Int32)).bind fun z1 =>
      if z1 = 0 then
        fX5_rowsAheadOn_49 kr v0 v1 v2 v3 v4 v1 h
      else
        fX5_rowsAheadOn_49 kr v0 v1 v2 v3 v4 v2 h
    else
      fX5_rowsAheadOn_11 kr v0 v1 v2 h
def fX5_rowsAheadOn : Nat → Nat → Int32 → Int32 → Int32 → Int32 → gx_H → Option (Int32 × gx_H)
  | 0 => fun _ _ _ _ _ _ => none
  | n + 1 => eX5_rowsAheadOn (fX5_rowsAheadOn n)
set_option maxRecDepth 100000 in
set_option maxHeartbeats 4000000 in
theorem gX5_rowsAheadOn_37 {E : gx_Env} {d : Nat} (kr : Nat → Int32 → Int32 → Int32 → Int32 → gx_H → Option (Int32 × gx_H)) (hkr : ∀ (v0 : Nat) (v1 : Int32) (v2 : Int32) (v3 : Int32) (v4 : Int32) (h : gx_H) (r : Int32) (h1 : gx_H), kr v0 v1 v2 v3 v4 h = some (r, h1) → gx_M E yX5_rowsAheadOn cX5_rowsAheadOn 8 (some .int) (d + 3) 0 0 [.ref v0, .int v1, .int v2, .int v3, .int v4] h ((fun x : Int32 => some (.int x)) r) h1)  : ∀ (s0 : Int32) (h : gx_H), gx_G E RX5 cX5_rowsAheadOn 8 (some .int) false (d + 4) 0 0 37 [none, none, none, none, none, none, none, none] [.int s0] h (fun x : Int32 => some (.int x)) (fX5_rowsAheadOn_37 kr s0 h) := by
  intro s0 h
  unfold fX5_rowsAheadOn_37
  exact gx_iret dX5_rowsAheadOn_37 rfl
set_option maxRecDepth 100000 in
set_option maxHeartbeats 4000000 in
theorem gX5_rowsAheadOn_11 {E : gx_Env} {d : Nat} (kr : Nat → Int32 → Int32 → Int32 → Int32 → gx_H → Option (Int32 × gx_H)) (hkr : ∀ (v0 : Nat) (v1 : Int32) (v2 : Int32) (v3 : Int32) (v4 : Int32) (h : gx_H) (r : Int32) (h1 : gx_H), kr v0 v1 v2 v3 v4 h = some (r, h1) → gx_M E yX5_rowsAheadOn cX5_rowsAheadOn 8 (some .int) (d + 3) 0 0 [.ref v0, .int v1, .int v2, .int v3, .int v4] h ((fun x : Int32 => some (.int x)) r) h1)  : ∀ (v0 : Nat) (v1 : Int32) (v2 : Int32) (h : gx_H), gx_G E RX5 cX5_rowsAheadOn 8 (some .int) false (d + 4) 0 0 11 [some (.ref v0), some (.int v1), some (.int v2), none, none, none, none, none] [] h (fun x : Int32 => some (.int x)) (fX5_rowsAheadOn_11 kr v0 v1 v2 h) := by
  intro v0 v1 v2 h
  unfold fX5_rowsAheadOn_11
  refine gx_aload_n 0 dX5_rowsAheadOn_11 rfl rfl ?_
  refine gx_getR kf_RX5_12 dX5_rowsAheadOn_12 (fun a2 => ?_)
  refine gx_getR kf_RX5_75 dX5_rowsAheadOn_15 (fun a3 => ?_)
  refine gx_iload_n 1 dX5_rowsAheadOn_18 rfl rfl ?_
  refine gx_iald dX5_rowsAheadOn_19 (fun x4 => ?_)
  refine gx_aload_n 0 dX5_rowsAheadOn_20 rfl rfl ?_
  refine gx_getR kf_RX5_12 dX5_rowsAheadOn_21 (fun a5 => ?_)
  refine gx_getR kf_RX5_75 dX5_rowsAheadOn_24 (fun a6 => ?_)
  refine gx_iload_n 2 dX5_rowsAheadOn_27 rfl rfl ?_
  refine gx_iald dX5_rowsAheadOn_28 (fun x7 => ?_)
  refine gx_icmp_le 36 dX5_rowsAheadOn_29 (by decide) (fun _ => ?_) (fun _ => ?_)
  · refine gx_iconst (0 : Int32) dX5_rowsAheadOn_36 (by decide) ?_
    exact gx_sub (gX5_rowsAheadOn_37 kr hkr (0 : Int32) h) True.intro
  · refine gx_iconst (1 : Int32) dX5_rowsAheadOn_32 (by decide) ?_
    refine gx_goto 37 dX5_rowsAheadOn_33 (by decide) ?_
    exact gx_sub (gX5_rowsAheadOn_37 kr hkr (1 : Int32) h) True.intro
set_option maxRecDepth 100000 in
set_option maxHeartbeats 4000000 in
theorem gbX5_rowsAheadOn_89 {E : gx_Env} {d : Nat} (kr : Nat → Int32 → Int32 → Int32 → Int32 → gx_H → Option (Int32 × gx_H)) (hkr : ∀ (v0 : Nat) (v1 : Int32) (v2 : Int32) (v3 : Int32) (v4 : Int32) (h : gx_H) (r : Int32) (h1 : gx_H), kr v0 v1 v2 v3 v4 h = some (r, h1) → gx_M E yX5_rowsAheadOn cX5_rowsAheadOn 8 (some .int) (d + 3) 0 0 [.ref v0, .int v1, .int v2, .int v3, .int v4] h ((fun x : Int32 => some (.int x)) r) h1)  (k89 : Nat → Int32 → Int32 → Int32 → Int32 → Int32 → Int32 → Int32 → gx_H → Option (Int32 × gx_H)) (hk89 : ∀ (v0 : Nat) (v1 : Int32) (v2 : Int32) (v3 : Int32) (v4 : Int32) (v5 : Int32) (v6 : Int32) (v7 : Int32) (h : gx_H), gx_G E RX5 cX5_rowsAheadOn 8 (some .int) false (d + 4) 0 0 89 [some (.ref v0), some (.int v1), some (.int v2), some (.int v3), some (.int v4), some (.int v5), some (.int v6), some (.int v7)] [] h (fun x : Int32 => some (.int x)) (k89 v0 v1 v2 v3 v4 v5 v6 v7 h))  : ∀ (v0 : Nat) (v1 : Int32) (v2 : Int32) (v3 : Int32) (v4 : Int32) (v5 : Int32) (v6 : Int32) (v7 : Int32) (h : gx_H), gx_G E RX5 cX5_rowsAheadOn 8 (some .int) false (d + 4) 0 0 89 [some (.ref v0), some (.int v1), some (.int v2), some (.int v3), some (.int v4), some (.int v5), some (.int v6), some (.int v7)] [] h (fun x : Int32 => some (.int x)) (bX5_rowsAheadOn_89 kr k89 v0 v1 v2 v3 v4 v5 v6 v7 h) := by
  intro v0 v1 v2 v3 v4 v5 v6 v7 h
  unfold bX5_rowsAheadOn_89
  refine gx_iload dX5_rowsAheadOn_89 rfl ?_
  refine gx_aload_n 0 dX5_rowsAheadOn_91 rfl rfl ?_
  refine gx_getR kf_RX5_12 dX5_rowsAheadOn_92 (fun a15 => ?_)
  refine gx_getI kf_RX5_64 dX5_rowsAheadOn_95 (fun x16 => ?_)
  refine gx_icmp_gt 153 dX5_rowsAheadOn_98 (by decide) (fun _ => ?_) (fun _ => ?_)
  · refine gx_iload dX5_rowsAheadOn_153 rfl ?_
    exact gx_iret dX5_rowsAheadOn_155 rfl
  · refine gx_aload_n 0 dX5_rowsAheadOn_101 rfl rfl ?_
    refine gx_getR kf_RX5_12 dX5_rowsAheadOn_102 (fun a17 => ?_)
    refine gx_iload dX5_rowsAheadOn_105 rfl ?_
    refine gx_iload dX5_rowsAheadOn_107 rfl ?_
    refine gx_aload_n 0 dX5_rowsAheadOn_109 rfl rfl ?_
    refine gx_getR kf_RX5_24 dX5_rowsAheadOn_110 (fun a18 => ?_)
    refine gx_iload_n 3 dX5_rowsAheadOn_113 rfl rfl ?_
    refine gx_aald3 dX5_rowsAheadOn_114 (fun a19 => ?_)
    refine gx_callV (ci := 0) (bc := 0) (bs := 0) (mc := 0) (ms := 0) (em' := (fun _ : Unit => none)) [.int v5, .int v7, .ref a19] kc_RX5_67 rfl dX5_rowsAheadOn_115 rfl rfl (gx_w8 rfl) (fun x q => (gx_isO_of (by unfold fX0_move at q; exact q)).2) (fun _ _ q => okX0_move d q) (fun u21 h20 => ?_)
    refine gx_iload dX5_rowsAheadOn_118 rfl ?_
    refine gx_aload_n 0 dX5_rowsAheadOn_120 rfl rfl ?_
    refine gx_iload_n 1 dX5_rowsAheadOn_121 rfl rfl ?_
    refine gx_iload_n 2 dX5_rowsAheadOn_122 rfl rfl ?_
    refine gx_iload_n 3 dX5_rowsAheadOn_123 rfl rfl ?_
    refine gx_iconst (1 : Int32) dX5_rowsAheadOn_124 (by decide) ?_
    refine gx_iadd dX5_rowsAheadOn_125 ?_
    refine gx_iload dX5_rowsAheadOn_126 rfl ?_
    refine gx_callS (bc := 0) (bs := 0) (mc := 0) (ms := 0) (em' := (fun x : Int32 => some (.int x))) [.ref v0, .int v1, .int v2, .int (v3 + (1 : Int32)), .int v4] kc_RX5_110 dX5_rowsAheadOn_128 rfl rfl (gx_w8 rfl) (fun _ _ q => hkr _ _ _ _ _ _ _ _ q) (fun x23 h22 => ?_)
    refine gx_iadd dX5_rowsAheadOn_131 ?_
    refine gx_istore [some (.ref v0), some (.int v1), some (.int v2), some (.int v3), some (.int v4), some (.int v5), some (.int (v6 + x23)), some (.int v7)] dX5_rowsAheadOn_132 (by decide) rfl ?_
    refine gx_aload_n 0 dX5_rowsAheadOn_134 rfl rfl ?_
    refine gx_getR kf_RX5_12 dX5_rowsAheadOn_135 (fun a24 => ?_)
    refine gx_aload_n 0 dX5_rowsAheadOn_138 rfl rfl ?_
    refine gx_getR kf_RX5_24 dX5_rowsAheadOn_139 (fun a25 => ?_)
    refine gx_iload_n 3 dX5_rowsAheadOn_142 rfl rfl ?_
    refine gx_aald3 dX5_rowsAheadOn_143 (fun a26 => ?_)
    refine gx_callV (ci := 0) (bc := 0) (bs := 0) (mc := 0) (ms := 0) (em' := (fun _ : Unit => none)) [.ref a26] kc_RX5_71 rfl dX5_rowsAheadOn_144 rfl rfl (gx_w8 rfl) (fun x q => (gx_isO_of (by unfold fX0_takeBack at q; exact q)).2) (fun _ _ q => okX0_takeBack (d + 3) q) (fun u28 h27 => ?_)
    refine gx_iinc (1 : Int32) [some (.ref v0), some (.int v1), some (.int v2), some (.int v3), some (.int v4), some (.int v5), some (.int (v6 + x23)), some (.int (v7 + (1 : Int32)))] dX5_rowsAheadOn_147 rfl (by decide) (by decide) rfl ?_
    refine gx_goto 89 dX5_rowsAheadOn_150 (by decide) ?_
    exact gx_sub (hk89 v0 v1 v2 v3 v4 v5 (v6 + x23) (v7 + (1 : Int32)) h27) (And.intro rfl (And.intro rfl (And.intro rfl (And.intro rfl (And.intro rfl (And.intro rfl (And.intro rfl (And.intro rfl True.intro))))))))
set_option maxRecDepth 100000 in
set_option maxHeartbeats 4000000 in
theorem gX5_rowsAheadOn_89 {E : gx_Env} {d : Nat} (kr : Nat → Int32 → Int32 → Int32 → Int32 → gx_H → Option (Int32 × gx_H)) (hkr : ∀ (v0 : Nat) (v1 : Int32) (v2 : Int32) (v3 : Int32) (v4 : Int32) (h : gx_H) (r : Int32) (h1 : gx_H), kr v0 v1 v2 v3 v4 h = some (r, h1) → gx_M E yX5_rowsAheadOn cX5_rowsAheadOn 8 (some .int) (d + 3) 0 0 [.ref v0, .int v1, .int v2, .int v3, .int v4] h ((fun x : Int32 => some (.int x)) r) h1)  : ∀ (n : Nat) (v0 : Nat) (v1 : Int32) (v2 : Int32) (v3 : Int32) (v4 : Int32) (v5 : Int32) (v6 : Int32) (v7 : Int32) (h : gx_H), gx_G E RX5 cX5_rowsAheadOn 8 (some .int) false (d + 4) 0 0 89 [some (.ref v0), some (.int v1), some (.int v2), some (.int v3), some (.int v4), some (.int v5), some (.int v6), some (.int v7)] [] h (fun x : Int32 => some (.int x)) (fX5_rowsAheadOn_89 kr n v0 v1 v2 v3 v4 v5 v6 v7 h) := by
  intro n
  induction n with
  | zero => intro v0 v1 v2 v3 v4 v5 v6 v7 h; exact gx_none
  | succ n ih => exact gbX5_rowsAheadOn_89 kr hkr  (fX5_rowsAheadOn_89 kr n) ih
set_option maxRecDepth 100000 in
set_option maxHeartbeats 4000000 in
theorem gX5_rowsAheadOn_49 {E : gx_Env} {d : Nat} (kr : Nat → Int32 → Int32 → Int32 → Int32 → gx_H → Option (Int32 × gx_H)) (hkr : ∀ (v0 : Nat) (v1 : Int32) (v2 : Int32) (v3 : Int32) (v4 : Int32) (h : gx_H) (r : Int32) (h1 : gx_H), kr v0 v1 v2 v3 v4 h = some (r, h1) → gx_M E yX5_rowsAheadOn cX5_rowsAheadOn 8 (some .int) (d + 3) 0 0 [.ref v0, .int v1, .int v2, .int v3, .int v4] h ((fun x : Int32 => some (.int x)) r) h1)  : ∀ (v0 : Nat) (v1 : Int32) (v2 : Int32) (v3 : Int32) (v4 : Int32) (s0 : Int32) (h : gx_H), gx_G E RX5 cX5_rowsAheadOn 8 (some .int) false (d + 4) 0 0 49 [some (.ref v0), some (.int v1), some (.int v2), some (.int v3), some (.int v4), none, none, none] [.int s0] h (fun x : Int32 => some (.int x)) (fX5_rowsAheadOn_49 kr v0 v1 v2 v3 v4 s0 h) := by
  intro v0 v1 v2 v3 v4 s0 h
  unfold fX5_rowsAheadOn_49
  refine gx_istore [some (.ref v0), some (.int v1), some (.int v2), some (.int v3), some (.int v4), some (.int s0), none, none] dX5_rowsAheadOn_49 (by decide) rfl ?_
  refine gx_aload_n 0 dX5_rowsAheadOn_51 rfl rfl ?_
  refine gx_getR kf_RX5_12 dX5_rowsAheadOn_52 (fun a8 => ?_)
  refine gx_iload dX5_rowsAheadOn_55 rfl ?_
  refine gx_callV (ci := 0) (bc := 0) (bs := 0) (mc := 0) (ms := 0) (em' := (fun x : Int32 => some (.int x))) [.int s0] kc_RX5_60 rfl dX5_rowsAheadOn_57 rfl rfl (gx_w8 rfl) (fun x q => (gx_isO_of (by unfold fX0_isHome at q; exact q)).2) (fun _ _ q => okX0_isHome (d + 3) q) (fun x10 h9 => ?_)
  refine gx_if_eq 83 dX5_rowsAheadOn_60 (by decide) (fun _ => ?_) (fun _ => ?_)
  · refine gx_iconst (0 : Int32) dX5_rowsAheadOn_83 (by decide) ?_
    refine gx_istore [some (.ref v0), some (.int v1), some (.int v2), some (.int v3), some (.int v4), some (.int s0), some (.int (0 : Int32)), none] dX5_rowsAheadOn_84 (by decide) rfl ?_
    refine gx_iconst (1 : Int32) dX5_rowsAheadOn_86 (by decide) ?_
    refine gx_istore [some (.ref v0), some (.int v1), some (.int v2), some (.int v3), some (.int v4), some (.int s0), some (.int (0 : Int32)), some (.int (1 : Int32))] dX5_rowsAheadOn_87 (by decide) rfl ?_
    exact gx_sub (gX5_rowsAheadOn_89 kr hkr gx_N v0 v1 v2 v3 v4 s0 (0 : Int32) (1 : Int32) h9) (And.intro rfl (And.intro rfl (And.intro rfl (And.intro rfl (And.intro rfl (And.intro rfl (And.intro rfl (And.intro rfl True.intro))))))))
  · refine gx_aload_n 0 dX5_rowsAheadOn_63 rfl rfl ?_
    refine gx_getR kf_RX5_12 dX5_rowsAheadOn_64 (fun a11 => ?_)
    refine gx_getI kf_RX5_64 dX5_rowsAheadOn_67 (fun x12 => ?_)
    refine gx_aload_n 0 dX5_rowsAheadOn_70 rfl rfl ?_
    refine gx_iload_n 1 dX5_rowsAheadOn_71 rfl rfl ?_
    refine gx_iload_n 2 dX5_rowsAheadOn_72 rfl rfl ?_
    refine gx_iload_n 3 dX5_rowsAheadOn_73 rfl rfl ?_
    refine gx_iconst (1 : Int32) dX5_rowsAheadOn_74 (by decide) ?_
    refine gx_iadd dX5_rowsAheadOn_75 ?_
    refine gx_iload dX5_rowsAheadOn_76 rfl ?_
    refine gx_callS (bc := 0) (bs := 0) (mc := 0) (ms := 0) (em' := (fun x : Int32 => some (.int x))) [.ref v0, .int v1, .int v2, .int (v3 + (1 : Int32)), .int v4] kc_RX5_110 dX5_rowsAheadOn_78 rfl rfl (gx_w8 rfl) (fun _ _ q => hkr _ _ _ _ _ _ _ _ q) (fun x14 h13 => ?_)
    refine gx_imul dX5_rowsAheadOn_81 ?_
    exact gx_iret dX5_rowsAheadOn_82 rfl
set_option maxRecDepth 100000 in
set_option maxHeartbeats 4000000 in
theorem geX5_rowsAheadOn {E : gx_Env} {d : Nat} (kr : Nat → Int32 → Int32 → Int32 → Int32 → gx_H → Option (Int32 × gx_H)) (hkr : ∀ (v0 : Nat) (v1 : Int32) (v2 : Int32) (v3 : Int32) (v4 : Int32) (h : gx_H) (r : Int32) (h1 : gx_H), kr v0 v1 v2 v3 v4 h = some (r, h1) → gx_M E yX5_rowsAheadOn cX5_rowsAheadOn 8 (some .int) (d + 3) 0 0 [.ref v0, .int v1, .int v2, .int v3, .int v4] h ((fun x : Int32 => some (.int x)) r) h1) (v0 : Nat) (v1 : Int32) (v2 : Int32) (v3 : Int32) (v4 : Int32) (h : gx_H) : gx_G E RX5 cX5_rowsAheadOn 8 (some .int) false (d + 4) 0 0 0 [some (.ref v0), some (.int v1), some (.int v2), some (.int v3), some (.int v4), none, none, none] [] h (fun x : Int32 => some (.int x)) (eX5_rowsAheadOn kr v0 v1 v2 v3 v4 h) := by
  unfold eX5_rowsAheadOn
  refine gx_iload_n 3 dX5_rowsAheadOn_0 rfl rfl ?_
  refine gx_iload dX5_rowsAheadOn_1 rfl ?_
  refine gx_icmp_ge 11 dX5_rowsAheadOn_3 (by decide) (fun _ => ?_) (fun _ => ?_)
  · exact gx_sub (gX5_rowsAheadOn_11 kr hkr v0 v1 v2 h) (And.intro rfl (And.intro rfl (And.intro rfl True.intro)))
  · refine gx_iload_n 3 dX5_rowsAheadOn_6 rfl rfl ?_
    refine gx_iconst (5 : Int32) dX5_rowsAheadOn_7 (by decide) ?_
    refine gx_icmp_lt 38 dX5_rowsAheadOn_8 (by decide) (fun _ => ?_) (fun _ => ?_)
    · refine gx_iload_n 3 dX5_rowsAheadOn_38 rfl rfl ?_
      refine gx_iconst (2 : Int32) dX5_rowsAheadOn_39 (by decide) ?_
      refine gx_irem dX5_rowsAheadOn_40 (fun z1 => ?_)
      refine gx_if_ne 48 dX5_rowsAheadOn_41 (by decide) (fun _ => ?_) (fun _ => ?_)
      · refine gx_iload_n 2 dX5_rowsAheadOn_48 rfl rfl ?_
        exact gx_sub (gX5_rowsAheadOn_49 kr hkr v0 v1 v2 v3 v4 v2 h) (And.intro rfl (And.intro rfl (And.intro rfl (And.intro rfl (And.intro rfl True.intro)))))
      · refine gx_iload_n 1 dX5_rowsAheadOn_44 rfl rfl ?_
        refine gx_goto 49 dX5_rowsAheadOn_45 (by decide) ?_
        exact gx_sub (gX5_rowsAheadOn_49 kr hkr v0 v1 v2 v3 v4 v1 h) (And.intro rfl (And.intro rfl (And.intro rfl (And.intro rfl (And.intro rfl True.intro)))))
    · exact gx_sub (gX5_rowsAheadOn_11 kr hkr v0 v1 v2 h) (And.intro rfl (And.intro rfl (And.intro rfl True.intro)))
theorem okX5_rowsAheadOn_n {E : gx_Env} : ∀ (N d : Nat) (v0 : Nat) (v1 : Int32) (v2 : Int32) (v3 : Int32) (v4 : Int32) (h : gx_H) (r : Int32) (h1 : gx_H), fX5_rowsAheadOn N v0 v1 v2 v3 v4 h = some (r, h1) → gx_M E yX5_rowsAheadOn cX5_rowsAheadOn 8 (some .int) (d + 3 + N) 0 0 [.ref v0, .int v1, .int v2, .int v3, .int v4] h ((fun x : Int32 => some (.int x)) r) h1
  | 0, d, v0, v1, v2, v3, v4, h, r, h1, q => by cases q
  | N + 1, d, v0, v1, v2, v3, v4, h, r, h1, q => gx_meth (y := yX5_rowsAheadOn) (cc := cX5_rowsAheadOn) (nL := 8) (em := (fun x : Int32 => some (.int x))) (ini := false) [.ref v0, .int v1, .int v2, .int v3, .int v4] (by decide) (by simp [gx_sl]) (fun q => by cases q) (by
    have ih := okX5_rowsAheadOn_n (E := E) N d
    have e : d + 3 + (N + 1) = (d + N) + 4 := by omega
    have e2 : d + 3 + N = (d + N) + 3 := by omega
    rw [e2] at ih
    rw [e]
    exact geX5_rowsAheadOn (d := d + N) (fX5_rowsAheadOn N) ih v0 v1 v2 v3 v4 h) q
theorem okX5_rowsAheadOn {E : gx_Env} (d : Nat) {v0 : Nat} {v1 : Int32} {v2 : Int32} {v3 : Int32} {v4 : Int32} {h : gx_H} {r : Int32} {h1 : gx_H} (q : fX5_rowsAheadOn 8 v0 v1 v2 v3 v4 h = some (r, h1)) : gx_M E yX5_rowsAheadOn cX5_rowsAheadOn 8 (some .int) (d + 11) 0 0 [.ref v0, .int v1, .int v2, .int v3, .int v4] h ((fun x : Int32 => some (.int x)) r) h1 := okX5_rowsAheadOn_n 8 d v0 v1 v2 v3 v4 h r h1 q
theorem dX5_rowsAhead_0 : decode cX5_rowsAhead 0 = .ok (.aload_n 0, 1) := by decide +kernel
theorem dX5_rowsAhead_1 : decode cX5_rowsAhead 1 = .ok (.getfield 12, 3) := by decide +kernel
theorem dX5_rowsAhead_4 : decode cX5_rowsAhead 4 = .ok (.aload_n 1, 1) := by decide +kernel
theorem dX5_rowsAhead_5 : decode cX5_rowsAhead 5 = .ok (.invokevirtual 48, 3) := by decide +kernel
theorem dX5_rowsAhead_8 : decode cX5_rowsAhead 8 = .ok (.aload_n 0, 1) := by decide +kernel
theorem dX5_rowsAhead_9 : decode cX5_rowsAhead 9 = .ok (.iload_n 2, 1) := by decide +kernel
theorem dX5_rowsAhead_10 : decode cX5_rowsAhead 10 = .ok (.iload_n 3, 1) := by decide +kernel
theorem dX5_rowsAhead_11 : decode cX5_rowsAhead 11 = .ok (.iconst 0, 1) := by decide +kernel
theorem dX5_rowsAhead_12 : decode cX5_rowsAhead 12 = .ok (.iconst 2, 1) := by decide +kernel
theorem dX5_rowsAhead_13 : decode cX5_rowsAhead 13 = .ok (.iload 4, 2) := by decide +kernel
theorem dX5_rowsAhead_15 : decode cX5_rowsAhead 15 = .ok (.imul, 1) := by decide +kernel
theorem dX5_rowsAhead_16 : decode cX5_rowsAhead 16 = .ok (.invokestatic 110, 3) := by decide +kernel
theorem dX5_rowsAhead_19 : decode cX5_rowsAhead 19 = .ok (.ireturn, 1) := by decide +kernel
def fX5_rowsAhead (v0 : Nat) (v1 : Nat) (v2 : Int32) (v3 : Int32) (v4 : Int32) (h : gx_H) : Option (Int32 × gx_H) :=
  (gx_isO h v0 4).bind fun _ =>
  (gx_fR h v0 4 0).bind fun a1 =>
  gx_bd (fX0_copy a1 v1 h) fun u3 h2 =>
  gx_bd (fX5_rowsAheadOn 8 v0 v2 v3 (0 : Int32) ((2 : Int32) * v4) h2) fun x5 h4 =>
  some (x5, h4)
set_option maxRecDepth 100000 in
set_option maxHeartbeats 4000000 in
theorem geX5_rowsAhead {E : gx_Env} {d : Nat} (v0 : Nat) (v1 : Nat) (v2 : Int32) (v3 : Int32) (v4 : Int32) (h : gx_H) : gx_G E RX5 cX5_rowsAhead 5 (some .int) false (d + 12) 0 0 0 [some (.ref v0), some (.ref v1), some (.int v2), some (.int v3), some (.int v4)] [] h (fun x : Int32 => some (.int x)) (fX5_rowsAhead v0 v1 v2 v3 v4 h) := by
  unfold fX5_rowsAhead
  refine gx_bind fun _ _ => ?_
  refine gx_aload_n 0 dX5_rowsAhead_0 rfl rfl ?_
  refine gx_getR kf_RX5_12 dX5_rowsAhead_1 (fun a1 => ?_)
  refine gx_aload_n 1 dX5_rowsAhead_4 rfl rfl ?_
  refine gx_callV (ci := 0) (bc := 0) (bs := 0) (mc := 0) (ms := 0) (em' := (fun _ : Unit => none)) [.ref v1] kc_RX5_48 rfl dX5_rowsAhead_5 rfl rfl (gx_w8 rfl) (fun x q => (gx_isO_of (by unfold fX0_copy at q; exact q)).2) (fun _ _ q => okX0_copy (d + 11) q) (fun u3 h2 => ?_)
  refine gx_aload_n 0 dX5_rowsAhead_8 rfl rfl ?_
  refine gx_iload_n 2 dX5_rowsAhead_9 rfl rfl ?_
  refine gx_iload_n 3 dX5_rowsAhead_10 rfl rfl ?_
  refine gx_iconst (0 : Int32) dX5_rowsAhead_11 (by decide) ?_
  refine gx_iconst (2 : Int32) dX5_rowsAhead_12 (by decide) ?_
  refine gx_iload dX5_rowsAhead_13 rfl ?_
  refine gx_imul dX5_rowsAhead_15 ?_
  refine gx_callS (bc := 0) (bs := 0) (mc := 0) (ms := 0) (em' := (fun x : Int32 => some (.int x))) [.ref v0, .int v2, .int v3, .int (0 : Int32), .int ((2 : Int32) * v4)] kc_RX5_110 dX5_rowsAhead_16 rfl rfl (gx_w8 rfl) (fun _ _ q => okX5_rowsAheadOn d q) (fun x5 h4 => ?_)
  exact gx_iret dX5_rowsAhead_19 rfl
theorem okX5_rowsAhead {E : gx_Env} (d : Nat) {v0 : Nat} {v1 : Nat} {v2 : Int32} {v3 : Int32} {v4 : Int32} {h : gx_H} {r : Int32} {h1 : gx_H} (q : fX5_rowsAhead v0 v1 v2 v3 v4 h = some (r, h1)) : gx_M E yX5_rowsAhead cX5_rowsAhead 5 (some .int) (d + 12) 0 0 [.ref v0, .ref v1, .int v2, .int v3, .int v4] h ((fun x : Int32 => some (.int x)) r) h1 := gx_meth (y := yX5_rowsAhead) (cc := cX5_rowsAhead) (nL := 5) (em := (fun x : Int32 => some (.int x))) (ini := false) [.ref v0, .ref v1, .int v2, .int v3, .int v4] (by decide) (by simp [gx_sl]) (fun q => by cases q) (geX5_rowsAhead v0 v1 v2 v3 v4 h) q
theorem dX5_moveUnlessHome_0 : decode cX5_moveUnlessHome 0 = .ok (.aload_n 0, 1) := by decide +kernel
theorem dX5_moveUnlessHome_1 : decode cX5_moveUnlessHome 1 = .ok (.getfield 12, 3) := by decide +kernel
theorem dX5_moveUnlessHome_4 : decode cX5_moveUnlessHome 4 = .ok (.iload_n 1, 1) := by decide +kernel
theorem dX5_moveUnlessHome_5 : decode cX5_moveUnlessHome 5 = .ok (.invokevirtual 60, 3) := by decide +kernel
theorem dX5_moveUnlessHome_8 : decode cX5_moveUnlessHome 8 = .ok (.ifCond .eq 15, 3) := by decide +kernel
theorem dX5_moveUnlessHome_11 : decode cX5_moveUnlessHome 11 = .ok (.aload_n 0, 1) := by decide +kernel
theorem dX5_moveUnlessHome_12 : decode cX5_moveUnlessHome 12 = .ok (.getfield 12, 3) := by decide +kernel
theorem dX5_moveUnlessHome_15 : decode cX5_moveUnlessHome 15 = .ok (.iload_n 1, 1) := by decide +kernel
theorem dX5_moveUnlessHome_16 : decode cX5_moveUnlessHome 16 = .ok (.aload_n 3, 1) := by decide +kernel
theorem dX5_moveUnlessHome_17 : decode cX5_moveUnlessHome 17 = .ok (.invokevirtual 128, 3) := by decide +kernel
theorem dX5_moveUnlessHome_20 : decode cX5_moveUnlessHome 20 = .ok (.goto 13, 3) := by decide +kernel
theorem dX5_moveUnlessHome_23 : decode cX5_moveUnlessHome 23 = .ok (.aload_n 0, 1) := by decide +kernel
theorem dX5_moveUnlessHome_24 : decode cX5_moveUnlessHome 24 = .ok (.getfield 12, 3) := by decide +kernel
theorem dX5_moveUnlessHome_27 : decode cX5_moveUnlessHome 27 = .ok (.iload_n 1, 1) := by decide +kernel
theorem dX5_moveUnlessHome_28 : decode cX5_moveUnlessHome 28 = .ok (.iload_n 2, 1) := by decide +kernel
theorem dX5_moveUnlessHome_29 : decode cX5_moveUnlessHome 29 = .ok (.aload_n 3, 1) := by decide +kernel
theorem dX5_moveUnlessHome_30 : decode cX5_moveUnlessHome 30 = .ok (.invokevirtual 67, 3) := by decide +kernel
theorem dX5_moveUnlessHome_33 : decode cX5_moveUnlessHome 33 = .ok (.return_, 1) := by decide +kernel
def fX5_moveUnlessHome_33 (h : gx_H) : Option (Unit × gx_H) :=
  some ((), h)
def fX5_moveUnlessHome (v0 : Nat) (v1 : Int32) (v2 : Int32) (v3 : Nat) (h : gx_H) : Option (Unit × gx_H) :=
  (gx_isO h v0 4).bind fun _ =>
  (gx_fR h v0 4 0).bind fun a1 =>
  gx_bd (fX0_isHome a1 v1 h) fun x3 h2 =>
  if x3 = 0 then
    (gx_fR h2 v0 4 0).bind fun a4 =>
    gx_bd (fX0_move a4 v1 v2 v3 h2) fun u6 h5 =>
    fX5_moveUnlessHome_33 h5
  else
    (gx_fR h2 v0 4 0).bind fun a7 =>
    gx_bd (fX0_remember a7 v1 v3 h2) fun u9 h8 =>
    fX5_moveUnlessHome_33 h8
set_option maxRecDepth 100000 in
set_option maxHeartbeats 4000000 in
theorem gX5_moveUnlessHome_33 {E : gx_Env} {d : Nat}  : ∀  (h : gx_H), gx_G E RX5 cX5_moveUnlessHome 4 none false (d + 4) 0 0 33 [none, none, none, none] [] h (fun _ : Unit => none) (fX5_moveUnlessHome_33 h) := by
  intro  h
  unfold fX5_moveUnlessHome_33
  exact gx_vret dX5_moveUnlessHome_33 rfl
set_option maxRecDepth 100000 in
set_option maxHeartbeats 4000000 in
theorem geX5_moveUnlessHome {E : gx_Env} {d : Nat} (v0 : Nat) (v1 : Int32) (v2 : Int32) (v3 : Nat) (h : gx_H) : gx_G E RX5 cX5_moveUnlessHome 4 none false (d + 4) 0 0 0 [some (.ref v0), some (.int v1), some (.int v2), some (.ref v3)] [] h (fun _ : Unit => none) (fX5_moveUnlessHome v0 v1 v2 v3 h) := by
  unfold fX5_moveUnlessHome
  refine gx_bind fun _ _ => ?_
  refine gx_aload_n 0 dX5_moveUnlessHome_0 rfl rfl ?_
  refine gx_getR kf_RX5_12 dX5_moveUnlessHome_1 (fun a1 => ?_)
  refine gx_iload_n 1 dX5_moveUnlessHome_4 rfl rfl ?_
  refine gx_callV (ci := 0) (bc := 0) (bs := 0) (mc := 0) (ms := 0) (em' := (fun x : Int32 => some (.int x))) [.int v1] kc_RX5_60 rfl dX5_moveUnlessHome_5 rfl rfl (gx_w8 rfl) (fun x q => (gx_isO_of (by unfold fX0_isHome at q; exact q)).2) (fun _ _ q => okX0_isHome (d + 3) q) (fun x3 h2 => ?_)
  refine gx_if_eq 23 dX5_moveUnlessHome_8 (by decide) (fun _ => ?_) (fun _ => ?_)
  · refine gx_aload_n 0 dX5_moveUnlessHome_23 rfl rfl ?_
    refine gx_getR kf_RX5_12 dX5_moveUnlessHome_24 (fun a4 => ?_)
    refine gx_iload_n 1 dX5_moveUnlessHome_27 rfl rfl ?_
    refine gx_iload_n 2 dX5_moveUnlessHome_28 rfl rfl ?_
    refine gx_aload_n 3 dX5_moveUnlessHome_29 rfl rfl ?_
    refine gx_callV (ci := 0) (bc := 0) (bs := 0) (mc := 0) (ms := 0) (em' := (fun _ : Unit => none)) [.int v1, .int v2, .ref v3] kc_RX5_67 rfl dX5_moveUnlessHome_30 rfl rfl (gx_w8 rfl) (fun x q => (gx_isO_of (by unfold fX0_move at q; exact q)).2) (fun _ _ q => okX0_move d q) (fun u6 h5 => ?_)
    exact gx_sub (gX5_moveUnlessHome_33 h5) True.intro
  · refine gx_aload_n 0 dX5_moveUnlessHome_11 rfl rfl ?_
    refine gx_getR kf_RX5_12 dX5_moveUnlessHome_12 (fun a7 => ?_)
    refine gx_iload_n 1 dX5_moveUnlessHome_15 rfl rfl ?_
    refine gx_aload_n 3 dX5_moveUnlessHome_16 rfl rfl ?_
    refine gx_callV (ci := 0) (bc := 0) (bs := 0) (mc := 0) (ms := 0) (em' := (fun _ : Unit => none)) [.int v1, .ref v3] kc_RX5_128 rfl dX5_moveUnlessHome_17 rfl rfl (gx_w8 rfl) (fun x q => (gx_isO_of (by unfold fX0_remember at q; exact q)).2) (fun _ _ q => okX0_remember (d + 3) q) (fun u9 h8 => ?_)
    refine gx_goto 33 dX5_moveUnlessHome_20 (by decide) ?_
    exact gx_sub (gX5_moveUnlessHome_33 h8) True.intro
theorem okX5_moveUnlessHome {E : gx_Env} (d : Nat) {v0 : Nat} {v1 : Int32} {v2 : Int32} {v3 : Nat} {h : gx_H} {r : Unit} {h1 : gx_H} (q : fX5_moveUnlessHome v0 v1 v2 v3 h = some (r, h1)) : gx_M E yX5_moveUnlessHome cX5_moveUnlessHome 4 none (d + 4) 0 0 [.ref v0, .int v1, .int v2, .ref v3] h ((fun _ : Unit => none) r) h1 := gx_meth (y := yX5_moveUnlessHome) (cc := cX5_moveUnlessHome) (nL := 4) (em := (fun _ : Unit => none)) (ini := false) [.ref v0, .int v1, .int v2, .ref v3] (by decide) (by simp [gx_sl]) (fun q => by cases q) (geX5_moveUnlessHome v0 v1 v2 v3 h) q
theorem dX5_gain_0 : decode cX5_gain 0 = .ok (.aload_n 0, 1) := by decide +kernel
theorem dX5_gain_1 : decode cX5_gain 1 = .ok (.getfield 12, 3) := by decide +kernel
theorem dX5_gain_4 : decode cX5_gain 4 = .ok (.iload_n 1, 1) := by decide +kernel
theorem dX5_gain_5 : decode cX5_gain 5 = .ok (.invokevirtual 60, 3) := by decide +kernel
theorem dX5_gain_8 : decode cX5_gain 8 = .ok (.ifCond .eq 8, 3) := by decide +kernel
theorem dX5_gain_11 : decode cX5_gain 11 = .ok (.bipush 10, 2) := by decide +kernel
theorem dX5_gain_13 : decode cX5_gain 13 = .ok (.goto 4, 3) := by decide +kernel
theorem dX5_gain_16 : decode cX5_gain 16 = .ok (.iconst 0, 1) := by decide +kernel
theorem dX5_gain_17 : decode cX5_gain 17 = .ok (.istore 4, 2) := by decide +kernel
theorem dX5_gain_19 : decode cX5_gain 19 = .ok (.aload_n 0, 1) := by decide +kernel
theorem dX5_gain_20 : decode cX5_gain 20 = .ok (.getfield 12, 3) := by decide +kernel
theorem dX5_gain_23 : decode cX5_gain 23 = .ok (.getfield 75, 3) := by decide +kernel
theorem dX5_gain_26 : decode cX5_gain 26 = .ok (.iload_n 1, 1) := by decide +kernel
theorem dX5_gain_27 : decode cX5_gain 27 = .ok (.iaload, 1) := by decide +kernel
theorem dX5_gain_28 : decode cX5_gain 28 = .ok (.aload_n 0, 1) := by decide +kernel
theorem dX5_gain_29 : decode cX5_gain 29 = .ok (.getfield 12, 3) := by decide +kernel
theorem dX5_gain_32 : decode cX5_gain 32 = .ok (.getfield 75, 3) := by decide +kernel
theorem dX5_gain_35 : decode cX5_gain 35 = .ok (.iload_n 2, 1) := by decide +kernel
theorem dX5_gain_36 : decode cX5_gain 36 = .ok (.iaload, 1) := by decide +kernel
theorem dX5_gain_37 : decode cX5_gain 37 = .ok (.if_icmp .le 6, 3) := by decide +kernel
theorem dX5_gain_40 : decode cX5_gain 40 = .ok (.iinc 4 1, 3) := by decide +kernel
theorem dX5_gain_43 : decode cX5_gain 43 = .ok (.iload_n 3, 1) := by decide +kernel
theorem dX5_gain_44 : decode cX5_gain 44 = .ok (.ifCond .eq 10, 3) := by decide +kernel
theorem dX5_gain_47 : decode cX5_gain 47 = .ok (.iload 4, 2) := by decide +kernel
theorem dX5_gain_49 : decode cX5_gain 49 = .ok (.iconst 3, 1) := by decide +kernel
theorem dX5_gain_50 : decode cX5_gain 50 = .ok (.isub, 1) := by decide +kernel
theorem dX5_gain_51 : decode cX5_gain 51 = .ok (.goto 5, 3) := by decide +kernel
theorem dX5_gain_54 : decode cX5_gain 54 = .ok (.iload 4, 2) := by decide +kernel
theorem dX5_gain_56 : decode cX5_gain 56 = .ok (.ireturn, 1) := by decide +kernel
def fX5_gain_56 (s0 : Int32) (h : gx_H) : Option (Int32 × gx_H) :=
  some (s0, h)
def fX5_gain_43 (v3 : Int32) (v4 : Int32) (h : gx_H) : Option (Int32 × gx_H) :=
  if v3 = 0 then
    fX5_gain_56 v4 h
  else
    fX5_gain_56 (v4 - (3 : Int32)) h
def fX5_gain_17 (v0 : Nat) (v1 : Int32) (v2 : Int32) (v3 : Int32) (s0 : Int32) (h : gx_H) : Option (Int32 × gx_H) :=
  (gx_fR h v0 4 0).bind fun a4 =>
  (gx_fR h a4 0 9).bind fun a5 =>
  (gx_aI 0 h a5 v1).bind fun x6 =>
  (gx_fR h v0 4 0).bind fun a7 =>
  (gx_fR h a7 0 9).bind fun a8 =>
  (gx_aI 0 h a8 v2).bind fun x9 =>
  if x6 ≤ x9 then
    fX5_gain_43 v3 s0 h
  else
    fX5_gain_43 v3 (s0 + (1 : Int32)) h
def fX5_gain (v0 : Nat) (v1 : Int32) (v2 : Int32) (v3 : Int32) (h : gx_H) : Option (Int32 × gx_H) :=
  (gx_isO h v0 4).bind fun _ =>
  (gx_fR h v0 4 0).bind fun a1 =>
  gx_bd (fX0_isHome a1 v1 h) fun x3 h2 =>
  if x3 = 0 then
    fX5_gain_17 v0 v1 v2 v3 (0 : Int32) h2
  else
    fX5_gain_17 v0 v1 v2 v3 (10 : Int32) h2
set_option maxRecDepth 100000 in
set_option maxHeartbeats 4000000 in
theorem gX5_gain_56 {E : gx_Env} {d : Nat}  : ∀ (s0 : Int32) (h : gx_H), gx_G E RX5 cX5_gain 5 (some .int) false (d + 1) 0 0 56 [none, none, none, none, none] [.int s0] h (fun x : Int32 => some (.int x)) (fX5_gain_56 s0 h) := by
  intro s0 h
  unfold fX5_gain_56
  exact gx_iret dX5_gain_56 rfl
set_option maxRecDepth 100000 in
set_option maxHeartbeats 4000000 in
theorem gX5_gain_43 {E : gx_Env} {d : Nat}  : ∀ (v3 : Int32) (v4 : Int32) (h : gx_H), gx_G E RX5 cX5_gain 5 (some .int) false (d + 1) 0 0 43 [none, none, none, some (.int v3), some (.int v4)] [] h (fun x : Int32 => some (.int x)) (fX5_gain_43 v3 v4 h) := by
  intro v3 v4 h
  unfold fX5_gain_43
  refine gx_iload_n 3 dX5_gain_43 rfl rfl ?_
  refine gx_if_eq 54 dX5_gain_44 (by decide) (fun _ => ?_) (fun _ => ?_)
  · refine gx_iload dX5_gain_54 rfl ?_
    exact gx_sub (gX5_gain_56 v4 h) True.intro
  · refine gx_iload dX5_gain_47 rfl ?_
    refine gx_iconst (3 : Int32) dX5_gain_49 (by decide) ?_
    refine gx_isub dX5_gain_50 ?_
    refine gx_goto 56 dX5_gain_51 (by decide) ?_
    exact gx_sub (gX5_gain_56 (v4 - (3 : Int32)) h) True.intro
set_option maxRecDepth 100000 in
set_option maxHeartbeats 4000000 in
theorem gX5_gain_17 {E : gx_Env} {d : Nat}  : ∀ (v0 : Nat) (v1 : Int32) (v2 : Int32) (v3 : Int32) (s0 : Int32) (h : gx_H), gx_G E RX5 cX5_gain 5 (some .int) false (d + 1) 0 0 17 [some (.ref v0), some (.int v1), some (.int v2), some (.int v3), none] [.int s0] h (fun x : Int32 => some (.int x)) (fX5_gain_17 v0 v1 v2 v3 s0 h) := by
  intro v0 v1 v2 v3 s0 h
  unfold fX5_gain_17
  refine gx_istore [some (.ref v0), some (.int v1), some (.int v2), some (.int v3), some (.int s0)] dX5_gain_17 (by decide) rfl ?_
  refine gx_aload_n 0 dX5_gain_19 rfl rfl ?_
  refine gx_getR kf_RX5_12 dX5_gain_20 (fun a4 => ?_)
  refine gx_getR kf_RX5_75 dX5_gain_23 (fun a5 => ?_)
  refine gx_iload_n 1 dX5_gain_26 rfl rfl ?_
  refine gx_iald dX5_gain_27 (fun x6 => ?_)
  refine gx_aload_n 0 dX5_gain_28 rfl rfl ?_
  refine gx_getR kf_RX5_12 dX5_gain_29 (fun a7 => ?_)
  refine gx_getR kf_RX5_75 dX5_gain_32 (fun a8 => ?_)
  refine gx_iload_n 2 dX5_gain_35 rfl rfl ?_
  refine gx_iald dX5_gain_36 (fun x9 => ?_)
  refine gx_icmp_le 43 dX5_gain_37 (by decide) (fun _ => ?_) (fun _ => ?_)
  · exact gx_sub (gX5_gain_43 v3 s0 h) (And.intro rfl (And.intro rfl True.intro))
  · refine gx_iinc (1 : Int32) [some (.ref v0), some (.int v1), some (.int v2), some (.int v3), some (.int (s0 + (1 : Int32)))] dX5_gain_40 rfl (by decide) (by decide) rfl ?_
    exact gx_sub (gX5_gain_43 v3 (s0 + (1 : Int32)) h) (And.intro rfl (And.intro rfl True.intro))
set_option maxRecDepth 100000 in
set_option maxHeartbeats 4000000 in
theorem geX5_gain {E : gx_Env} {d : Nat} (v0 : Nat) (v1 : Int32) (v2 : Int32) (v3 : Int32) (h : gx_H) : gx_G E RX5 cX5_gain 5 (some .int) false (d + 1) 0 0 0 [some (.ref v0), some (.int v1), some (.int v2), some (.int v3), none] [] h (fun x : Int32 => some (.int x)) (fX5_gain v0 v1 v2 v3 h) := by
  unfold fX5_gain
  refine gx_bind fun _ _ => ?_
  refine gx_aload_n 0 dX5_gain_0 rfl rfl ?_
  refine gx_getR kf_RX5_12 dX5_gain_1 (fun a1 => ?_)
  refine gx_iload_n 1 dX5_gain_4 rfl rfl ?_
  refine gx_callV (ci := 0) (bc := 0) (bs := 0) (mc := 0) (ms := 0) (em' := (fun x : Int32 => some (.int x))) [.int v1] kc_RX5_60 rfl dX5_gain_5 rfl rfl (gx_w8 rfl) (fun x q => (gx_isO_of (by unfold fX0_isHome at q; exact q)).2) (fun _ _ q => okX0_isHome d q) (fun x3 h2 => ?_)
  refine gx_if_eq 16 dX5_gain_8 (by decide) (fun _ => ?_) (fun _ => ?_)
  · refine gx_iconst (0 : Int32) dX5_gain_16 (by decide) ?_
    exact gx_sub (gX5_gain_17 v0 v1 v2 v3 (0 : Int32) h2) (And.intro rfl (And.intro rfl (And.intro rfl (And.intro rfl True.intro))))
  · refine gx_bipush (10 : Int32) dX5_gain_11 (by decide) ?_
    refine gx_goto 17 dX5_gain_13 (by decide) ?_
    exact gx_sub (gX5_gain_17 v0 v1 v2 v3 (10 : Int32) h2) (And.intro rfl (And.intro rfl (And.intro rfl (And.intro rfl True.intro))))
theorem okX5_gain {E : gx_Env} (d : Nat) {v0 : Nat} {v1 : Int32} {v2 : Int32} {v3 : Int32} {h : gx_H} {r : Int32} {h1 : gx_H} (q : fX5_gain v0 v1 v2 v3 h = some (r, h1)) : gx_M E yX5_gain cX5_gain 5 (some .int) (d + 1) 0 0 [.ref v0, .int v1, .int v2, .int v3] h ((fun x : Int32 => some (.int x)) r) h1 := gx_meth (y := yX5_gain) (cc := cX5_gain) (nL := 5) (em := (fun x : Int32 => some (.int x))) (ini := false) [.ref v0, .int v1, .int v2, .int v3] (by decide) (by simp [gx_sl]) (fun q => by cases q) (geX5_gain v0 v1 v2 v3 h) q
theorem dX5_pairAt_0 : decode cX5_pairAt 0 = .ok (.iload_n 0, 1) := by decide +kernel
theorem dX5_pairAt_1 : decode cX5_pairAt 1 = .ok (.iconst 1, 1) := by decide +kernel
theorem dX5_pairAt_2 : decode cX5_pairAt 2 = .ok (.bipush 6, 2) := by decide +kernel
theorem dX5_pairAt_4 : decode cX5_pairAt 4 = .ok (.invokestatic 56, 3) := by decide +kernel
theorem dX5_pairAt_7 : decode cX5_pairAt 7 = .ok (.ifCond .eq 17, 3) := by decide +kernel
theorem dX5_pairAt_10 : decode cX5_pairAt 10 = .ok (.iload_n 1, 1) := by decide +kernel
theorem dX5_pairAt_11 : decode cX5_pairAt 11 = .ok (.iconst 1, 1) := by decide +kernel
theorem dX5_pairAt_12 : decode cX5_pairAt 12 = .ok (.bipush 6, 2) := by decide +kernel
theorem dX5_pairAt_14 : decode cX5_pairAt 14 = .ok (.invokestatic 56, 3) := by decide +kernel
theorem dX5_pairAt_17 : decode cX5_pairAt 17 = .ok (.ifCond .eq 7, 3) := by decide +kernel
theorem dX5_pairAt_20 : decode cX5_pairAt 20 = .ok (.iconst 1, 1) := by decide +kernel
theorem dX5_pairAt_21 : decode cX5_pairAt 21 = .ok (.goto 4, 3) := by decide +kernel
theorem dX5_pairAt_24 : decode cX5_pairAt 24 = .ok (.iconst 0, 1) := by decide +kernel
theorem dX5_pairAt_25 : decode cX5_pairAt 25 = .ok (.istore_n 2, 1) := by decide +kernel
theorem dX5_pairAt_26 : decode cX5_pairAt 26 = .ok (.iload_n 2, 1) := by decide +kernel
theorem dX5_pairAt_27 : decode cX5_pairAt 27 = .ok (.ifCond .eq 16, 3) := by decide +kernel
theorem dX5_pairAt_30 : decode cX5_pairAt 30 = .ok (.iload_n 0, 1) := by decide +kernel
theorem dX5_pairAt_31 : decode cX5_pairAt 31 = .ok (.iconst 1, 1) := by decide +kernel
theorem dX5_pairAt_32 : decode cX5_pairAt 32 = .ok (.isub, 1) := by decide +kernel
theorem dX5_pairAt_33 : decode cX5_pairAt 33 = .ok (.bipush 6, 2) := by decide +kernel
theorem dX5_pairAt_35 : decode cX5_pairAt 35 = .ok (.imul, 1) := by decide +kernel
theorem dX5_pairAt_36 : decode cX5_pairAt 36 = .ok (.iload_n 1, 1) := by decide +kernel
theorem dX5_pairAt_37 : decode cX5_pairAt 37 = .ok (.iadd, 1) := by decide +kernel
theorem dX5_pairAt_38 : decode cX5_pairAt 38 = .ok (.iconst 1, 1) := by decide +kernel
theorem dX5_pairAt_39 : decode cX5_pairAt 39 = .ok (.isub, 1) := by decide +kernel
theorem dX5_pairAt_40 : decode cX5_pairAt 40 = .ok (.goto 4, 3) := by decide +kernel
theorem dX5_pairAt_43 : decode cX5_pairAt 43 = .ok (.iconst 0, 1) := by decide +kernel
theorem dX5_pairAt_44 : decode cX5_pairAt 44 = .ok (.ireturn, 1) := by decide +kernel
def fX5_pairAt_44 (s0 : Int32) (h : gx_H) : Option (Int32 × gx_H) :=
  some (s0, h)
def fX5_pairAt_25 (v0 : Int32) (v1 : Int32) (s0 : Int32) (h : gx_H) : Option (Int32 × gx_H) :=
  if s0 = 0 then
    fX5_pairAt_44 (0 : Int32) h
  else
    fX5_pairAt_44 ((((v0 - (1 : Int32)) * (6 : Int32)) + v1) - (1 : Int32)) h
def fX5_pairAt_24 (v0 : Int32) (v1 : Int32) (h : gx_H) : Option (Int32 × gx_H) :=
  fX5_pairAt_25 v0 v1 (0 : Int32) h
def fX5_pairAt (v0 : Int32) (v1 : Int32) (h : gx_H) : Option (Int32 × gx_H) :=
  gx_bd (fX10_within v0 (1 : Int32) (6 : Int32) h) fun x2 h1 =>
  if x2 = 0 then
    fX5_pairAt_24 v0 v1 h1
  else
    gx_bd (fX10_within v1 (1 : Int32) (6 : Int32) h1) fun x4 h3 =>
    if x4 = 0 then
      fX5_pairAt_24 v0 v1 h3
    else
      fX5_pairAt_25 v0 v1 (1 : Int32) h3
set_option maxRecDepth 100000 in
set_option maxHeartbeats 4000000 in
theorem gX5_pairAt_44 {E : gx_Env} {d : Nat}  : ∀ (s0 : Int32) (h : gx_H), gx_G E RX5 cX5_pairAt 3 (some .int) false (d + 1) 0 0 44 [none, none, none] [.int s0] h (fun x : Int32 => some (.int x)) (fX5_pairAt_44 s0 h) := by
  intro s0 h
  unfold fX5_pairAt_44
  exact gx_iret dX5_pairAt_44 rfl
set_option maxRecDepth 100000 in
set_option maxHeartbeats 4000000 in
theorem gX5_pairAt_25 {E : gx_Env} {d : Nat}  : ∀ (v0 : Int32) (v1 : Int32) (s0 : Int32) (h : gx_H), gx_G E RX5 cX5_pairAt 3 (some .int) false (d + 1) 0 0 25 [some (.int v0), some (.int v1), none] [.int s0] h (fun x : Int32 => some (.int x)) (fX5_pairAt_25 v0 v1 s0 h) := by
  intro v0 v1 s0 h
  unfold fX5_pairAt_25
  refine gx_istore_n 2 [some (.int v0), some (.int v1), some (.int s0)] dX5_pairAt_25 rfl (by decide) rfl ?_
  refine gx_iload_n 2 dX5_pairAt_26 rfl rfl ?_
  refine gx_if_eq 43 dX5_pairAt_27 (by decide) (fun _ => ?_) (fun _ => ?_)
  · refine gx_iconst (0 : Int32) dX5_pairAt_43 (by decide) ?_
    exact gx_sub (gX5_pairAt_44 (0 : Int32) h) True.intro
  · refine gx_iload_n 0 dX5_pairAt_30 rfl rfl ?_
    refine gx_iconst (1 : Int32) dX5_pairAt_31 (by decide) ?_
    refine gx_isub dX5_pairAt_32 ?_
    refine gx_bipush (6 : Int32) dX5_pairAt_33 (by decide) ?_
    refine gx_imul dX5_pairAt_35 ?_
    refine gx_iload_n 1 dX5_pairAt_36 rfl rfl ?_
    refine gx_iadd dX5_pairAt_37 ?_
    refine gx_iconst (1 : Int32) dX5_pairAt_38 (by decide) ?_
    refine gx_isub dX5_pairAt_39 ?_
    refine gx_goto 44 dX5_pairAt_40 (by decide) ?_
    exact gx_sub (gX5_pairAt_44 ((((v0 - (1 : Int32)) * (6 : Int32)) + v1) - (1 : Int32)) h) True.intro
set_option maxRecDepth 100000 in
set_option maxHeartbeats 4000000 in
theorem gX5_pairAt_24 {E : gx_Env} {d : Nat}  : ∀ (v0 : Int32) (v1 : Int32) (h : gx_H), gx_G E RX5 cX5_pairAt 3 (some .int) false (d + 1) 0 0 24 [some (.int v0), some (.int v1), none] [] h (fun x : Int32 => some (.int x)) (fX5_pairAt_24 v0 v1 h) := by
  intro v0 v1 h
  unfold fX5_pairAt_24
  refine gx_iconst (0 : Int32) dX5_pairAt_24 (by decide) ?_
  exact gx_sub (gX5_pairAt_25 v0 v1 (0 : Int32) h) (And.intro rfl (And.intro rfl True.intro))
set_option maxRecDepth 100000 in
set_option maxHeartbeats 4000000 in
theorem geX5_pairAt {E : gx_Env} {d : Nat} (v0 : Int32) (v1 : Int32) (h : gx_H) : gx_G E RX5 cX5_pairAt 3 (some .int) false (d + 1) 0 0 0 [some (.int v0), some (.int v1), none] [] h (fun x : Int32 => some (.int x)) (fX5_pairAt v0 v1 h) := by
  unfold fX5_pairAt
  refine gx_iload_n 0 dX5_pairAt_0 rfl rfl ?_
  refine gx_iconst (1 : Int32) dX5_pairAt_1 (by decide) ?_
  refine gx_bipush (6 : Int32) dX5_pairAt_2 (by decide) ?_
  refine gx_callSN (bc := 0) (bs := 0) (mc := 0) (ms := 0) (em' := (fun x : Int32 => some (.int x))) [.int v0, .int (1 : Int32), .int (6 : Int32)] kc_RX5_56 dX5_pairAt_4 rfl rfl (gx_w8 rfl) (fun _ _ q => okX10_within d q) (fun x2 h1 => ?_)
  refine gx_if_eq 24 dX5_pairAt_7 (by decide) (fun _ => ?_) (fun _ => ?_)
  · exact gx_sub (gX5_pairAt_24 v0 v1 h1) (And.intro rfl (And.intro rfl True.intro))
  · refine gx_iload_n 1 dX5_pairAt_10 rfl rfl ?_
    refine gx_iconst (1 : Int32) dX5_pairAt_11 (by decide) ?_
    refine gx_bipush (6 : Int32) dX5_pairAt_12 (by decide) ?_
    refine gx_callSN (bc := 0) (bs := 0) (mc := 0) (ms := 0) (em' := (fun x : Int32 => some (.int x))) [.int v1, .int (1 : Int32), .int (6 : Int32)] kc_RX5_56 dX5_pairAt_14 rfl rfl (gx_w8 rfl) (fun _ _ q => okX10_within d q) (fun x4 h3 => ?_)
    refine gx_if_eq 24 dX5_pairAt_17 (by decide) (fun _ => ?_) (fun _ => ?_)
    · exact gx_sub (gX5_pairAt_24 v0 v1 h3) (And.intro rfl (And.intro rfl True.intro))
    · refine gx_iconst (1 : Int32) dX5_pairAt_20 (by decide) ?_
      refine gx_goto 25 dX5_pairAt_21 (by decide) ?_
      exact gx_sub (gX5_pairAt_25 v0 v1 (1 : Int32) h3) (And.intro rfl (And.intro rfl True.intro))
theorem okX5_pairAt {E : gx_Env} (d : Nat) {v0 : Int32} {v1 : Int32} {h : gx_H} {r : Int32} {h1 : gx_H} (q : fX5_pairAt v0 v1 h = some (r, h1)) : gx_M E yX5_pairAt cX5_pairAt 3 (some .int) (d + 1) 0 0 [.int v0, .int v1] h ((fun x : Int32 => some (.int x)) r) h1 := gx_meth (y := yX5_pairAt) (cc := cX5_pairAt) (nL := 3) (em := (fun x : Int32 => some (.int x))) (ini := false) [.int v0, .int v1] (by decide) (by simp [gx_sl]) (fun q => by cases q) (geX5_pairAt v0 v1 h) q
theorem dX5_weighPairs_0 : decode cX5_weighPairs 0 = .ok (.aload_n 0, 1) := by decide +kernel
theorem dX5_weighPairs_1 : decode cX5_weighPairs 1 = .ok (.getfield 12, 3) := by decide +kernel
theorem dX5_weighPairs_4 : decode cX5_weighPairs 4 = .ok (.aload_n 1, 1) := by decide +kernel
theorem dX5_weighPairs_5 : decode cX5_weighPairs 5 = .ok (.invokevirtual 48, 3) := by decide +kernel
theorem dX5_weighPairs_8 : decode cX5_weighPairs 8 = .ok (.iconst 1, 1) := by decide +kernel
theorem dX5_weighPairs_9 : decode cX5_weighPairs 9 = .ok (.istore 4, 2) := by decide +kernel
theorem dX5_weighPairs_11 : decode cX5_weighPairs 11 = .ok (.iload 4, 2) := by decide +kernel
theorem dX5_weighPairs_13 : decode cX5_weighPairs 13 = .ok (.aload_n 0, 1) := by decide +kernel
theorem dX5_weighPairs_14 : decode cX5_weighPairs 14 = .ok (.getfield 12, 3) := by decide +kernel
theorem dX5_weighPairs_17 : decode cX5_weighPairs 17 = .ok (.getfield 64, 3) := by decide +kernel
theorem dX5_weighPairs_20 : decode cX5_weighPairs 20 = .ok (.if_icmp .gt 142, 3) := by decide +kernel
theorem dX5_weighPairs_23 : decode cX5_weighPairs 23 = .ok (.aload_n 0, 1) := by decide +kernel
theorem dX5_weighPairs_24 : decode cX5_weighPairs 24 = .ok (.iload_n 2, 1) := by decide +kernel
theorem dX5_weighPairs_25 : decode cX5_weighPairs 25 = .ok (.iload 4, 2) := by decide +kernel
theorem dX5_weighPairs_27 : decode cX5_weighPairs 27 = .ok (.aload_n 0, 1) := by decide +kernel
theorem dX5_weighPairs_28 : decode cX5_weighPairs 28 = .ok (.getfield 24, 3) := by decide +kernel
theorem dX5_weighPairs_31 : decode cX5_weighPairs 31 = .ok (.iconst 0, 1) := by decide +kernel
theorem dX5_weighPairs_32 : decode cX5_weighPairs 32 = .ok (.aaload, 1) := by decide +kernel
theorem dX5_weighPairs_33 : decode cX5_weighPairs 33 = .ok (.invokevirtual 114, 3) := by decide +kernel
theorem dX5_weighPairs_36 : decode cX5_weighPairs 36 = .ok (.iconst 1, 1) := by decide +kernel
theorem dX5_weighPairs_37 : decode cX5_weighPairs 37 = .ok (.istore 5, 2) := by decide +kernel
theorem dX5_weighPairs_39 : decode cX5_weighPairs 39 = .ok (.iload 5, 2) := by decide +kernel
theorem dX5_weighPairs_41 : decode cX5_weighPairs 41 = .ok (.aload_n 0, 1) := by decide +kernel
theorem dX5_weighPairs_42 : decode cX5_weighPairs 42 = .ok (.getfield 12, 3) := by decide +kernel
theorem dX5_weighPairs_45 : decode cX5_weighPairs 45 = .ok (.getfield 64, 3) := by decide +kernel
theorem dX5_weighPairs_48 : decode cX5_weighPairs 48 = .ok (.if_icmp .gt 95, 3) := by decide +kernel
theorem dX5_weighPairs_51 : decode cX5_weighPairs 51 = .ok (.aload_n 0, 1) := by decide +kernel
theorem dX5_weighPairs_52 : decode cX5_weighPairs 52 = .ok (.iload_n 3, 1) := by decide +kernel
theorem dX5_weighPairs_53 : decode cX5_weighPairs 53 = .ok (.iload 5, 2) := by decide +kernel
theorem dX5_weighPairs_55 : decode cX5_weighPairs 55 = .ok (.aload_n 0, 1) := by decide +kernel
theorem dX5_weighPairs_56 : decode cX5_weighPairs 56 = .ok (.getfield 24, 3) := by decide +kernel
theorem dX5_weighPairs_59 : decode cX5_weighPairs 59 = .ok (.iconst 1, 1) := by decide +kernel
theorem dX5_weighPairs_60 : decode cX5_weighPairs 60 = .ok (.aaload, 1) := by decide +kernel
theorem dX5_weighPairs_61 : decode cX5_weighPairs 61 = .ok (.invokevirtual 114, 3) := by decide +kernel
theorem dX5_weighPairs_64 : decode cX5_weighPairs 64 = .ok (.aload_n 0, 1) := by decide +kernel
theorem dX5_weighPairs_65 : decode cX5_weighPairs 65 = .ok (.getfield 35, 3) := by decide +kernel
theorem dX5_weighPairs_68 : decode cX5_weighPairs 68 = .ok (.iload 4, 2) := by decide +kernel
theorem dX5_weighPairs_70 : decode cX5_weighPairs 70 = .ok (.iload 5, 2) := by decide +kernel
theorem dX5_weighPairs_72 : decode cX5_weighPairs 72 = .ok (.invokestatic 117, 3) := by decide +kernel
theorem dX5_weighPairs_75 : decode cX5_weighPairs 75 = .ok (.aload_n 0, 1) := by decide +kernel
theorem dX5_weighPairs_76 : decode cX5_weighPairs 76 = .ok (.iload_n 2, 1) := by decide +kernel
theorem dX5_weighPairs_77 : decode cX5_weighPairs 77 = .ok (.iload_n 3, 1) := by decide +kernel
theorem dX5_weighPairs_78 : decode cX5_weighPairs 78 = .ok (.iload 4, 2) := by decide +kernel
theorem dX5_weighPairs_80 : decode cX5_weighPairs 80 = .ok (.iload 5, 2) := by decide +kernel
theorem dX5_weighPairs_82 : decode cX5_weighPairs 82 = .ok (.if_icmp .ne 7, 3) := by decide +kernel
theorem dX5_weighPairs_85 : decode cX5_weighPairs 85 = .ok (.iconst 1, 1) := by decide +kernel
theorem dX5_weighPairs_86 : decode cX5_weighPairs 86 = .ok (.goto 4, 3) := by decide +kernel
theorem dX5_weighPairs_89 : decode cX5_weighPairs 89 = .ok (.iconst 0, 1) := by decide +kernel
theorem dX5_weighPairs_90 : decode cX5_weighPairs 90 = .ok (.invokevirtual 120, 3) := by decide +kernel
theorem dX5_weighPairs_93 : decode cX5_weighPairs 93 = .ok (.iastore, 1) := by decide +kernel
theorem dX5_weighPairs_94 : decode cX5_weighPairs 94 = .ok (.aload_n 0, 1) := by decide +kernel
theorem dX5_weighPairs_95 : decode cX5_weighPairs 95 = .ok (.getfield 38, 3) := by decide +kernel
theorem dX5_weighPairs_98 : decode cX5_weighPairs 98 = .ok (.iload 4, 2) := by decide +kernel
theorem dX5_weighPairs_100 : decode cX5_weighPairs 100 = .ok (.iload 5, 2) := by decide +kernel
theorem dX5_weighPairs_102 : decode cX5_weighPairs 102 = .ok (.invokestatic 117, 3) := by decide +kernel
theorem dX5_weighPairs_105 : decode cX5_weighPairs 105 = .ok (.aload_n 0, 1) := by decide +kernel
theorem dX5_weighPairs_106 : decode cX5_weighPairs 106 = .ok (.iload_n 3, 1) := by decide +kernel
theorem dX5_weighPairs_107 : decode cX5_weighPairs 107 = .ok (.iload_n 2, 1) := by decide +kernel
theorem dX5_weighPairs_108 : decode cX5_weighPairs 108 = .ok (.iload 4, 2) := by decide +kernel
theorem dX5_weighPairs_110 : decode cX5_weighPairs 110 = .ok (.iload 5, 2) := by decide +kernel
theorem dX5_weighPairs_112 : decode cX5_weighPairs 112 = .ok (.if_icmp .ne 7, 3) := by decide +kernel
theorem dX5_weighPairs_115 : decode cX5_weighPairs 115 = .ok (.iconst 1, 1) := by decide +kernel
theorem dX5_weighPairs_116 : decode cX5_weighPairs 116 = .ok (.goto 4, 3) := by decide +kernel
theorem dX5_weighPairs_119 : decode cX5_weighPairs 119 = .ok (.iconst 0, 1) := by decide +kernel
theorem dX5_weighPairs_120 : decode cX5_weighPairs 120 = .ok (.invokevirtual 120, 3) := by decide +kernel
theorem dX5_weighPairs_123 : decode cX5_weighPairs 123 = .ok (.iastore, 1) := by decide +kernel
theorem dX5_weighPairs_124 : decode cX5_weighPairs 124 = .ok (.aload_n 0, 1) := by decide +kernel
theorem dX5_weighPairs_125 : decode cX5_weighPairs 125 = .ok (.getfield 12, 3) := by decide +kernel
theorem dX5_weighPairs_128 : decode cX5_weighPairs 128 = .ok (.aload_n 0, 1) := by decide +kernel
theorem dX5_weighPairs_129 : decode cX5_weighPairs 129 = .ok (.getfield 24, 3) := by decide +kernel
theorem dX5_weighPairs_132 : decode cX5_weighPairs 132 = .ok (.iconst 1, 1) := by decide +kernel
theorem dX5_weighPairs_133 : decode cX5_weighPairs 133 = .ok (.aaload, 1) := by decide +kernel
theorem dX5_weighPairs_134 : decode cX5_weighPairs 134 = .ok (.invokevirtual 71, 3) := by decide +kernel
theorem dX5_weighPairs_137 : decode cX5_weighPairs 137 = .ok (.iinc 5 1, 3) := by decide +kernel
theorem dX5_weighPairs_140 : decode cX5_weighPairs 140 = .ok (.goto (-101), 3) := by decide +kernel
theorem dX5_weighPairs_143 : decode cX5_weighPairs 143 = .ok (.aload_n 0, 1) := by decide +kernel
theorem dX5_weighPairs_144 : decode cX5_weighPairs 144 = .ok (.getfield 12, 3) := by decide +kernel
theorem dX5_weighPairs_147 : decode cX5_weighPairs 147 = .ok (.aload_n 0, 1) := by decide +kernel
theorem dX5_weighPairs_148 : decode cX5_weighPairs 148 = .ok (.getfield 24, 3) := by decide +kernel
theorem dX5_weighPairs_151 : decode cX5_weighPairs 151 = .ok (.iconst 0, 1) := by decide +kernel
theorem dX5_weighPairs_152 : decode cX5_weighPairs 152 = .ok (.aaload, 1) := by decide +kernel
theorem dX5_weighPairs_153 : decode cX5_weighPairs 153 = .ok (.invokevirtual 71, 3) := by decide +kernel
theorem dX5_weighPairs_156 : decode cX5_weighPairs 156 = .ok (.iinc 4 1, 3) := by decide +kernel
theorem dX5_weighPairs_159 : decode cX5_weighPairs 159 = .ok (.goto (-148), 3) := by decide +kernel
theorem dX5_weighPairs_162 : decode cX5_weighPairs 162 = .ok (.return_, 1) := by decide +kernel
def fX5_weighPairs_120 (k11 : Nat → Int32 → Int32 → Int32 → gx_H → Option (Unit × gx_H)) (k39 : Nat → Int32 → Int32 → Int32 → Int32 → gx_H → Option (Unit × gx_H)) (v0 : Nat) (v2 : Int32) (v3 : Int32) (v4 : Int32) (v5 : Int32) (s0 : Nat) (s1 : Int32) (s2 : Nat) (s3 : Int32) (s4 : Int32) (s5 : Int32) (h : gx_H) : Option (Unit × gx_H) :=
  gx_bd (fX5_gain s2 s3 s4 s5 h) fun x31 h30 =>
  (gx_sI 0 h30 s0 s1 x31).bind fun h32 =>
  (gx_fR h32 v0 4 0).bind fun a33 =>
  (gx_fR h32 v0 4 1).bind fun a34 =>
  (gx_aR 3 h32 a34 (1 : Int32)).bind fun a35 =>
  gx_bd (fX0_takeBack a33 a35 h32) fun u37 h36 =>
  k39 v0 v2 v3 v4 (v5 + (1 : Int32)) h36
def fX5_weighPairs_90 (k11 : Nat → Int32 → Int32 → Int32 → gx_H → Option (Unit × gx_H)) (k39 : Nat → Int32 → Int32 → Int32 → Int32 → gx_H → Option (Unit × gx_H)) (v0 : Nat) (v2 : Int32) (v3 : Int32) (v4 : Int32) (v5 : Int32) (s0 : Nat) (s1 : Int32) (s2 : Nat) (s3 : Int32) (s4 : Int32) (s5 : Int32) (h : gx_H) : Option (Unit × gx_H) :=
  gx_bd (fX5_gain s2 s3 s4 s5 h) fun x25 h24 =>
  (gx_sI 0 h24 s0 s1 x25).bind fun h26 =>
  (gx_fR h26 v0 4 5).bind fun a27 =>
  gx_bd (fX5_pairAt v4 v5 h26) fun x29 h28 =>
  if v4 = v5 then
    fX5_weighPairs_120 k11 k39 v0 v2 v3 v4 v5 a27 x29 v0 v3 v2 (1 : Int32) h28
  else
    fX5_weighPairs_120 k11 k39 v0 v2 v3 v4 v5 a27 x29 v0 v3 v2 (0 : Int32) h28
def bX5_weighPairs_39 (k11 : Nat → Int32 → Int32 → Int32 → gx_H → Option (Unit × gx_H)) (k39 : Nat → Int32 → Int32 → Int32 → Int32 → gx_H → Option (Unit × gx_H)) (v0 : Nat) (v2 : Int32) (v3 : Int32) (v4 : Int32) (v5 : Int32) (h : gx_H) : Option (Unit × gx_H) :=
  (gx_fR h v0 4 0).bind fun a10 =>
  (gx_fI h a10 0 1).bind fun x11 =>
  if x11 < v5 then
    (gx_fR h v0 4 0).bind fun a12 =>
    (gx_fR h v0 4 1).bind fun a13 =>
    (gx_aR 3 h a13 (0 : Int32)).bind fun a14 =>
    gx_bd (fX0_takeBack a12 a14 h) fun u16 h15 =>
    k11 v0 v2 v3 (v4 + (1 : Int32)) h15
  else
    (gx_fR h v0 4 1).bind fun a17 =>
    (gx_aR 3 h a17 (1 : Int32)).bind fun a18 =>
    gx_bd (fX5_moveUnlessHome v0 v3 v5 a18 h) fun u20 h19 =>
    (gx_fR h19 v0 4 4).bind fun a21 =>
    gx_bd (fX5_pairAt v4 v5 h19) fun x23 h22 =>
    if v4 = v5 then
      fX5_weighPairs_90 k11 k39 v0 v2 v3 v4 v5 a21 x23 v0 v2 v3 (1 : Int32) h22
    else
      fX5_weighPairs_90 k11 k39 v0 v2 v3 v4 v5 a21 x23 v0 v2 v3 (0 : Int32) h22
def fX5_weighPairs_39 (k11 : Nat → Int32 → Int32 → Int32 → gx_H → Option (Unit × gx_H)) : Nat → Nat → Int32 → Int32 → Int32 → Int32 → gx_H → Option (Unit × gx_H)
  | 0 => fun _ _ _ _ _ _ => none
  | n + 1 => bX5_weighPairs_39 k11 (fX5_weighPairs_39 k11 n)
def bX5_weighPairs_11 (k11 : Nat → Int32 → Int32 → Int32 → gx_H → Option (Unit × gx_H)) (v0 : Nat) (v2 : Int32) (v3 : Int32) (v4 : Int32) (h : gx_H) : Option (Unit × gx_H) :=
  (gx_fR h v0 4 0).bind fun a4 =>
  (gx_fI h a4 0 1).bind fun x5 =>
  if x5 < v4 then
    some ((), h)
  else
    (gx_fR h v0 4 1).bind fun a6 =>
    (gx_aR 3 h a6 (0 : Int32)).bind fun a7 =>
    gx_bd (fX5_moveUnlessHome v0 v2 v4 a7 h) fun u9 h8 =>
    fX5_weighPairs_39 k11 gx_N v0 v2 v3 v4 (1 : Int32) h8
def fX5_weighPairs_11 : Nat → Nat → Int32 → Int32 → Int32 → gx_H → Option (Unit × gx_H)
  | 0 => fun _ _ _ _ _ => none
  | n + 1 => bX5_weighPairs_11 (fX5_weighPairs_11 n)
def fX5_weighPairs (v0 : Nat) (v1 : Nat) (v2 : Int32) (v3 : Int32) (h : gx_H) : Option (Unit × gx_H) :=
  (gx_isO h v0 4).bind fun _ =>
  (gx_fR h v0 4 0).bind fun a1 =>
  gx_bd (fX0_copy a1 v1 h) fun u3 h2 =>
  fX5_weighPairs_11 gx_N v0 v2 v3 (1 : Int32) h2
set_option maxRecDepth 100000 in
set_option maxHeartbeats 4000000 in
theorem gX5_weighPairs_120 {E : gx_Env} {d : Nat} (k11 : Nat → Int32 → Int32 → Int32 → gx_H → Option (Unit × gx_H)) (hk11 : ∀ (v0 : Nat) (v2 : Int32) (v3 : Int32) (v4 : Int32) (h : gx_H), gx_G E RX5 cX5_weighPairs 6 none false (d + 5) 0 0 11 [some (.ref v0), none, some (.int v2), some (.int v3), some (.int v4), none] [] h (fun _ : Unit => none) (k11 v0 v2 v3 v4 h))  (k39 : Nat → Int32 → Int32 → Int32 → Int32 → gx_H → Option (Unit × gx_H)) (hk39 : ∀ (v0 : Nat) (v2 : Int32) (v3 : Int32) (v4 : Int32) (v5 : Int32) (h : gx_H), gx_G E RX5 cX5_weighPairs 6 none false (d + 5) 0 0 39 [some (.ref v0), none, some (.int v2), some (.int v3), some (.int v4), some (.int v5)] [] h (fun _ : Unit => none) (k39 v0 v2 v3 v4 v5 h))  : ∀ (v0 : Nat) (v2 : Int32) (v3 : Int32) (v4 : Int32) (v5 : Int32) (s0 : Nat) (s1 : Int32) (s2 : Nat) (s3 : Int32) (s4 : Int32) (s5 : Int32) (h : gx_H), gx_G E RX5 cX5_weighPairs 6 none false (d + 5) 0 0 120 [some (.ref v0), none, some (.int v2), some (.int v3), some (.int v4), some (.int v5)] [.int s5, .int s4, .int s3, .ref s2, .int s1, .ref s0] h (fun _ : Unit => none) (fX5_weighPairs_120 k11 k39 v0 v2 v3 v4 v5 s0 s1 s2 s3 s4 s5 h) := by
  intro v0 v2 v3 v4 v5 s0 s1 s2 s3 s4 s5 h
  unfold fX5_weighPairs_120
  refine gx_callV (ci := 4) (bc := 0) (bs := 0) (mc := 0) (ms := 0) (em' := (fun x : Int32 => some (.int x))) [.int s3, .int s4, .int s5] kc_RX5_120 rfl dX5_weighPairs_120 rfl rfl (gx_w8 rfl) (fun x q => (gx_isO_of (by unfold fX5_gain at q; exact q)).2) (fun _ _ q => okX5_gain (d + 3) q) (fun x31 h30 => ?_)
  refine gx_iast dX5_weighPairs_123 (fun h32 => ?_)
  refine gx_aload_n 0 dX5_weighPairs_124 rfl rfl ?_
  refine gx_getR kf_RX5_12 dX5_weighPairs_125 (fun a33 => ?_)
  refine gx_aload_n 0 dX5_weighPairs_128 rfl rfl ?_
  refine gx_getR kf_RX5_24 dX5_weighPairs_129 (fun a34 => ?_)
  refine gx_iconst (1 : Int32) dX5_weighPairs_132 (by decide) ?_
  refine gx_aald3 dX5_weighPairs_133 (fun a35 => ?_)
  refine gx_callV (ci := 0) (bc := 0) (bs := 0) (mc := 0) (ms := 0) (em' := (fun _ : Unit => none)) [.ref a35] kc_RX5_71 rfl dX5_weighPairs_134 rfl rfl (gx_w8 rfl) (fun x q => (gx_isO_of (by unfold fX0_takeBack at q; exact q)).2) (fun _ _ q => okX0_takeBack (d + 4) q) (fun u37 h36 => ?_)
  refine gx_iinc (1 : Int32) [some (.ref v0), none, some (.int v2), some (.int v3), some (.int v4), some (.int (v5 + (1 : Int32)))] dX5_weighPairs_137 rfl (by decide) (by decide) rfl ?_
  refine gx_goto 39 dX5_weighPairs_140 (by decide) ?_
  exact gx_sub (hk39 v0 v2 v3 v4 (v5 + (1 : Int32)) h36) (And.intro rfl (And.intro rfl (And.intro rfl (And.intro rfl (And.intro rfl True.intro)))))
set_option maxRecDepth 100000 in
set_option maxHeartbeats 4000000 in
theorem gX5_weighPairs_90 {E : gx_Env} {d : Nat} (k11 : Nat → Int32 → Int32 → Int32 → gx_H → Option (Unit × gx_H)) (hk11 : ∀ (v0 : Nat) (v2 : Int32) (v3 : Int32) (v4 : Int32) (h : gx_H), gx_G E RX5 cX5_weighPairs 6 none false (d + 5) 0 0 11 [some (.ref v0), none, some (.int v2), some (.int v3), some (.int v4), none] [] h (fun _ : Unit => none) (k11 v0 v2 v3 v4 h))  (k39 : Nat → Int32 → Int32 → Int32 → Int32 → gx_H → Option (Unit × gx_H)) (hk39 : ∀ (v0 : Nat) (v2 : Int32) (v3 : Int32) (v4 : Int32) (v5 : Int32) (h : gx_H), gx_G E RX5 cX5_weighPairs 6 none false (d + 5) 0 0 39 [some (.ref v0), none, some (.int v2), some (.int v3), some (.int v4), some (.int v5)] [] h (fun _ : Unit => none) (k39 v0 v2 v3 v4 v5 h))  : ∀ (v0 : Nat) (v2 : Int32) (v3 : Int32) (v4 : Int32) (v5 : Int32) (s0 : Nat) (s1 : Int32) (s2 : Nat) (s3 : Int32) (s4 : Int32) (s5 : Int32) (h : gx_H), gx_G E RX5 cX5_weighPairs 6 none false (d + 5) 0 0 90 [some (.ref v0), none, some (.int v2), some (.int v3), some (.int v4), some (.int v5)] [.int s5, .int s4, .int s3, .ref s2, .int s1, .ref s0] h (fun _ : Unit => none) (fX5_weighPairs_90 k11 k39 v0 v2 v3 v4 v5 s0 s1 s2 s3 s4 s5 h) := by
  intro v0 v2 v3 v4 v5 s0 s1 s2 s3 s4 s5 h
  unfold fX5_weighPairs_90
  refine gx_callV (ci := 4) (bc := 0) (bs := 0) (mc := 0) (ms := 0) (em' := (fun x : Int32 => some (.int x))) [.int s3, .int s4, .int s5] kc_RX5_120 rfl dX5_weighPairs_90 rfl rfl (gx_w8 rfl) (fun x q => (gx_isO_of (by unfold fX5_gain at q; exact q)).2) (fun _ _ q => okX5_gain (d + 3) q) (fun x25 h24 => ?_)
  refine gx_iast dX5_weighPairs_93 (fun h26 => ?_)
  refine gx_aload_n 0 dX5_weighPairs_94 rfl rfl ?_
  refine gx_getR kf_RX5_38 dX5_weighPairs_95 (fun a27 => ?_)
  refine gx_iload dX5_weighPairs_98 rfl ?_
  refine gx_iload dX5_weighPairs_100 rfl ?_
  refine gx_callS (bc := 0) (bs := 0) (mc := 0) (ms := 0) (em' := (fun x : Int32 => some (.int x))) [.int v4, .int v5] kc_RX5_117 dX5_weighPairs_102 rfl rfl (gx_w8 rfl) (fun _ _ q => okX5_pairAt (d + 3) q) (fun x29 h28 => ?_)
  refine gx_aload_n 0 dX5_weighPairs_105 rfl rfl ?_
  refine gx_iload_n 3 dX5_weighPairs_106 rfl rfl ?_
  refine gx_iload_n 2 dX5_weighPairs_107 rfl rfl ?_
  refine gx_iload dX5_weighPairs_108 rfl ?_
  refine gx_iload dX5_weighPairs_110 rfl ?_
  refine gx_icmp_ne 119 dX5_weighPairs_112 (by decide) (fun _ => ?_) (fun _ => ?_)
  · refine gx_iconst (0 : Int32) dX5_weighPairs_119 (by decide) ?_
    exact gx_sub (gX5_weighPairs_120 k11 hk11 k39 hk39 v0 v2 v3 v4 v5 a27 x29 v0 v3 v2 (0 : Int32) h28) (And.intro rfl (And.intro rfl (And.intro rfl (And.intro rfl (And.intro rfl True.intro)))))
  · refine gx_iconst (1 : Int32) dX5_weighPairs_115 (by decide) ?_
    refine gx_goto 120 dX5_weighPairs_116 (by decide) ?_
    exact gx_sub (gX5_weighPairs_120 k11 hk11 k39 hk39 v0 v2 v3 v4 v5 a27 x29 v0 v3 v2 (1 : Int32) h28) (And.intro rfl (And.intro rfl (And.intro rfl (And.intro rfl (And.intro rfl True.intro)))))
set_option maxRecDepth 100000 in
set_option maxHeartbeats 4000000 in
theorem gbX5_weighPairs_39 {E : gx_Env} {d : Nat} (k11 : Nat → Int32 → Int32 → Int32 → gx_H → Option (Unit × gx_H)) (hk11 : ∀ (v0 : Nat) (v2 : Int32) (v3 : Int32) (v4 : Int32) (h : gx_H), gx_G E RX5 cX5_weighPairs 6 none false (d + 5) 0 0 11 [some (.ref v0), none, some (.int v2), some (.int v3), some (.int v4), none] [] h (fun _ : Unit => none) (k11 v0 v2 v3 v4 h))  (k39 : Nat → Int32 → Int32 → Int32 → Int32 → gx_H → Option (Unit × gx_H)) (hk39 : ∀ (v0 : Nat) (v2 : Int32) (v3 : Int32) (v4 : Int32) (v5 : Int32) (h : gx_H), gx_G E RX5 cX5_weighPairs 6 none false (d + 5) 0 0 39 [some (.ref v0), none, some (.int v2), some (.int v3), some (.int v4), some (.int v5)] [] h (fun _ : Unit => none) (k39 v0 v2 v3 v4 v5 h))  : ∀ (v0 : Nat) (v2 : Int32) (v3 : Int32) (v4 : Int32) (v5 : Int32) (h : gx_H), gx_G E RX5 cX5_weighPairs 6 none false (d + 5) 0 0 39 [some (.ref v0), none, some (.int v2), some (.int v3), some (.int v4), some (.int v5)] [] h (fun _ : Unit => none) (bX5_weighPairs_39 k11 k39 v0 v2 v3 v4 v5 h) := by
  intro v0 v2 v3 v4 v5 h
  unfold bX5_weighPairs_39
  refine gx_iload dX5_weighPairs_39 rfl ?_
  refine gx_aload_n 0 dX5_weighPairs_41 rfl rfl ?_
  refine gx_getR kf_RX5_12 dX5_weighPairs_42 (fun a10 => ?_)
  refine gx_getI kf_RX5_64 dX5_weighPairs_45 (fun x11 => ?_)
  refine gx_icmp_gt 143 dX5_weighPairs_48 (by decide) (fun _ => ?_) (fun _ => ?_)
  · refine gx_aload_n 0 dX5_weighPairs_143 rfl rfl ?_
    refine gx_getR kf_RX5_12 dX5_weighPairs_144 (fun a12 => ?_)
    refine gx_aload_n 0 dX5_weighPairs_147 rfl rfl ?_
    refine gx_getR kf_RX5_24 dX5_weighPairs_148 (fun a13 => ?_)
    refine gx_iconst (0 : Int32) dX5_weighPairs_151 (by decide) ?_
    refine gx_aald3 dX5_weighPairs_152 (fun a14 => ?_)
    refine gx_callV (ci := 0) (bc := 0) (bs := 0) (mc := 0) (ms := 0) (em' := (fun _ : Unit => none)) [.ref a14] kc_RX5_71 rfl dX5_weighPairs_153 rfl rfl (gx_w8 rfl) (fun x q => (gx_isO_of (by unfold fX0_takeBack at q; exact q)).2) (fun _ _ q => okX0_takeBack (d + 4) q) (fun u16 h15 => ?_)
    refine gx_iinc (1 : Int32) [some (.ref v0), none, some (.int v2), some (.int v3), some (.int (v4 + (1 : Int32))), some (.int v5)] dX5_weighPairs_156 rfl (by decide) (by decide) rfl ?_
    refine gx_goto 11 dX5_weighPairs_159 (by decide) ?_
    exact gx_sub (hk11 v0 v2 v3 (v4 + (1 : Int32)) h15) (And.intro rfl (And.intro rfl (And.intro rfl (And.intro rfl True.intro))))
  · refine gx_aload_n 0 dX5_weighPairs_51 rfl rfl ?_
    refine gx_iload_n 3 dX5_weighPairs_52 rfl rfl ?_
    refine gx_iload dX5_weighPairs_53 rfl ?_
    refine gx_aload_n 0 dX5_weighPairs_55 rfl rfl ?_
    refine gx_getR kf_RX5_24 dX5_weighPairs_56 (fun a17 => ?_)
    refine gx_iconst (1 : Int32) dX5_weighPairs_59 (by decide) ?_
    refine gx_aald3 dX5_weighPairs_60 (fun a18 => ?_)
    refine gx_callV (ci := 4) (bc := 0) (bs := 0) (mc := 0) (ms := 0) (em' := (fun _ : Unit => none)) [.int v3, .int v5, .ref a18] kc_RX5_114 rfl dX5_weighPairs_61 rfl rfl (gx_w8 rfl) (fun x q => (gx_isO_of (by unfold fX5_moveUnlessHome at q; exact q)).2) (fun _ _ q => okX5_moveUnlessHome d q) (fun u20 h19 => ?_)
    refine gx_aload_n 0 dX5_weighPairs_64 rfl rfl ?_
    refine gx_getR kf_RX5_35 dX5_weighPairs_65 (fun a21 => ?_)
    refine gx_iload dX5_weighPairs_68 rfl ?_
    refine gx_iload dX5_weighPairs_70 rfl ?_
    refine gx_callS (bc := 0) (bs := 0) (mc := 0) (ms := 0) (em' := (fun x : Int32 => some (.int x))) [.int v4, .int v5] kc_RX5_117 dX5_weighPairs_72 rfl rfl (gx_w8 rfl) (fun _ _ q => okX5_pairAt (d + 3) q) (fun x23 h22 => ?_)
    refine gx_aload_n 0 dX5_weighPairs_75 rfl rfl ?_
    refine gx_iload_n 2 dX5_weighPairs_76 rfl rfl ?_
    refine gx_iload_n 3 dX5_weighPairs_77 rfl rfl ?_
    refine gx_iload dX5_weighPairs_78 rfl ?_
    refine gx_iload dX5_weighPairs_80 rfl ?_
    refine gx_icmp_ne 89 dX5_weighPairs_82 (by decide) (fun _ => ?_) (fun _ => ?_)
    · refine gx_iconst (0 : Int32) dX5_weighPairs_89 (by decide) ?_
      exact gx_sub (gX5_weighPairs_90 k11 hk11 k39 hk39 v0 v2 v3 v4 v5 a21 x23 v0 v2 v3 (0 : Int32) h22) (And.intro rfl (And.intro rfl (And.intro rfl (And.intro rfl (And.intro rfl True.intro)))))
    · refine gx_iconst (1 : Int32) dX5_weighPairs_85 (by decide) ?_
      refine gx_goto 90 dX5_weighPairs_86 (by decide) ?_
      exact gx_sub (gX5_weighPairs_90 k11 hk11 k39 hk39 v0 v2 v3 v4 v5 a21 x23 v0 v2 v3 (1 : Int32) h22) (And.intro rfl (And.intro rfl (And.intro rfl (And.intro rfl (And.intro rfl True.intro)))))
set_option maxRecDepth 100000 in
set_option maxHeartbeats 4000000 in
theorem gX5_weighPairs_39 {E : gx_Env} {d : Nat} (k11 : Nat → Int32 → Int32 → Int32 → gx_H → Option (Unit × gx_H)) (hk11 : ∀ (v0 : Nat) (v2 : Int32) (v3 : Int32) (v4 : Int32) (h : gx_H), gx_G E RX5 cX5_weighPairs 6 none false (d + 5) 0 0 11 [some (.ref v0), none, some (.int v2), some (.int v3), some (.int v4), none] [] h (fun _ : Unit => none) (k11 v0 v2 v3 v4 h))  : ∀ (n : Nat) (v0 : Nat) (v2 : Int32) (v3 : Int32) (v4 : Int32) (v5 : Int32) (h : gx_H), gx_G E RX5 cX5_weighPairs 6 none false (d + 5) 0 0 39 [some (.ref v0), none, some (.int v2), some (.int v3), some (.int v4), some (.int v5)] [] h (fun _ : Unit => none) (fX5_weighPairs_39 k11 n v0 v2 v3 v4 v5 h) := by
  intro n
  induction n with
  | zero => intro v0 v2 v3 v4 v5 h; exact gx_none
  | succ n ih => exact gbX5_weighPairs_39 k11 hk11 (fX5_weighPairs_39 k11 n) ih
set_option maxRecDepth 100000 in
set_option maxHeartbeats 4000000 in
theorem gbX5_weighPairs_11 {E : gx_Env} {d : Nat}  (k11 : Nat → Int32 → Int32 → Int32 → gx_H → Option (Unit × gx_H)) (hk11 : ∀ (v0 : Nat) (v2 : Int32) (v3 : Int32) (v4 : Int32) (h : gx_H), gx_G E RX5 cX5_weighPairs 6 none false (d + 5) 0 0 11 [some (.ref v0), none, some (.int v2), some (.int v3), some (.int v4), none] [] h (fun _ : Unit => none) (k11 v0 v2 v3 v4 h))  : ∀ (v0 : Nat) (v2 : Int32) (v3 : Int32) (v4 : Int32) (h : gx_H), gx_G E RX5 cX5_weighPairs 6 none false (d + 5) 0 0 11 [some (.ref v0), none, some (.int v2), some (.int v3), some (.int v4), none] [] h (fun _ : Unit => none) (bX5_weighPairs_11 k11 v0 v2 v3 v4 h) := by
  intro v0 v2 v3 v4 h
  unfold bX5_weighPairs_11
  refine gx_iload dX5_weighPairs_11 rfl ?_
  refine gx_aload_n 0 dX5_weighPairs_13 rfl rfl ?_
  refine gx_getR kf_RX5_12 dX5_weighPairs_14 (fun a4 => ?_)
  refine gx_getI kf_RX5_64 dX5_weighPairs_17 (fun x5 => ?_)
  refine gx_icmp_gt 162 dX5_weighPairs_20 (by decide) (fun _ => ?_) (fun _ => ?_)
  · exact gx_vret dX5_weighPairs_162 rfl
  · refine gx_aload_n 0 dX5_weighPairs_23 rfl rfl ?_
    refine gx_iload_n 2 dX5_weighPairs_24 rfl rfl ?_
    refine gx_iload dX5_weighPairs_25 rfl ?_
    refine gx_aload_n 0 dX5_weighPairs_27 rfl rfl ?_
    refine gx_getR kf_RX5_24 dX5_weighPairs_28 (fun a6 => ?_)
    refine gx_iconst (0 : Int32) dX5_weighPairs_31 (by decide) ?_
    refine gx_aald3 dX5_weighPairs_32 (fun a7 => ?_)
    refine gx_callV (ci := 4) (bc := 0) (bs := 0) (mc := 0) (ms := 0) (em' := (fun _ : Unit => none)) [.int v2, .int v4, .ref a7] kc_RX5_114 rfl dX5_weighPairs_33 rfl rfl (gx_w8 rfl) (fun x q => (gx_isO_of (by unfold fX5_moveUnlessHome at q; exact q)).2) (fun _ _ q => okX5_moveUnlessHome d q) (fun u9 h8 => ?_)
    refine gx_iconst (1 : Int32) dX5_weighPairs_36 (by decide) ?_
    refine gx_istore [some (.ref v0), none, some (.int v2), some (.int v3), some (.int v4), some (.int (1 : Int32))] dX5_weighPairs_37 (by decide) rfl ?_
    exact gx_sub (gX5_weighPairs_39 k11 hk11 gx_N v0 v2 v3 v4 (1 : Int32) h8) (And.intro rfl (And.intro rfl (And.intro rfl (And.intro rfl (And.intro rfl True.intro)))))
set_option maxRecDepth 100000 in
set_option maxHeartbeats 4000000 in
theorem gX5_weighPairs_11 {E : gx_Env} {d : Nat}  : ∀ (n : Nat) (v0 : Nat) (v2 : Int32) (v3 : Int32) (v4 : Int32) (h : gx_H), gx_G E RX5 cX5_weighPairs 6 none false (d + 5) 0 0 11 [some (.ref v0), none, some (.int v2), some (.int v3), some (.int v4), none] [] h (fun _ : Unit => none) (fX5_weighPairs_11 n v0 v2 v3 v4 h) := by
  intro n
  induction n with
  | zero => intro v0 v2 v3 v4 h; exact gx_none
  | succ n ih => exact gbX5_weighPairs_11  (fX5_weighPairs_11  n) ih
set_option maxRecDepth 100000 in
set_option maxHeartbeats 4000000 in
theorem geX5_weighPairs {E : gx_Env} {d : Nat} (v0 : Nat) (v1 : Nat) (v2 : Int32) (v3 : Int32) (h : gx_H) : gx_G E RX5 cX5_weighPairs 6 none false (d + 5) 0 0 0 [some (.ref v0), some (.ref v1), some (.int v2), some (.int v3), none, none] [] h (fun _ : Unit => none) (fX5_weighPairs v0 v1 v2 v3 h) := by
  unfold fX5_weighPairs
  refine gx_bind fun _ _ => ?_
  refine gx_aload_n 0 dX5_weighPairs_0 rfl rfl ?_
  refine gx_getR kf_RX5_12 dX5_weighPairs_1 (fun a1 => ?_)
  refine gx_aload_n 1 dX5_weighPairs_4 rfl rfl ?_
  refine gx_callV (ci := 0) (bc := 0) (bs := 0) (mc := 0) (ms := 0) (em' := (fun _ : Unit => none)) [.ref v1] kc_RX5_48 rfl dX5_weighPairs_5 rfl rfl (gx_w8 rfl) (fun x q => (gx_isO_of (by unfold fX0_copy at q; exact q)).2) (fun _ _ q => okX0_copy (d + 4) q) (fun u3 h2 => ?_)
  refine gx_iconst (1 : Int32) dX5_weighPairs_8 (by decide) ?_
  refine gx_istore [some (.ref v0), some (.ref v1), some (.int v2), some (.int v3), some (.int (1 : Int32)), none] dX5_weighPairs_9 (by decide) rfl ?_
  exact gx_sub (gX5_weighPairs_11 gx_N v0 v2 v3 (1 : Int32) h2) (And.intro rfl (And.intro rfl (And.intro rfl (And.intro rfl True.intro))))
theorem okX5_weighPairs {E : gx_Env} (d : Nat) {v0 : Nat} {v1 : Nat} {v2 : Int32} {v3 : Int32} {h : gx_H} {r : Unit} {h1 : gx_H} (q : fX5_weighPairs v0 v1 v2 v3 h = some (r, h1)) : gx_M E yX5_weighPairs cX5_weighPairs 6 none (d + 5) 0 0 [.ref v0, .ref v1, .int v2, .int v3] h ((fun _ : Unit => none) r) h1 := gx_meth (y := yX5_weighPairs) (cc := cX5_weighPairs) (nL := 6) (em := (fun _ : Unit => none)) (ini := false) [.ref v0, .ref v1, .int v2, .int v3] (by decide) (by simp [gx_sl]) (fun q => by cases q) (geX5_weighPairs v0 v1 v2 v3 h) q
theorem dX5_rests_0 : decode cX5_rests 0 = .ok (.iconst 1, 1) := by decide +kernel
theorem dX5_rests_1 : decode cX5_rests 1 = .ok (.istore_n 3, 1) := by decide +kernel
theorem dX5_rests_2 : decode cX5_rests 2 = .ok (.iload_n 3, 1) := by decide +kernel
theorem dX5_rests_3 : decode cX5_rests 3 = .ok (.aload_n 0, 1) := by decide +kernel
theorem dX5_rests_4 : decode cX5_rests 4 = .ok (.getfield 12, 3) := by decide +kernel
theorem dX5_rests_7 : decode cX5_rests 7 = .ok (.getfield 64, 3) := by decide +kernel
theorem dX5_rests_10 : decode cX5_rests 10 = .ok (.if_icmp .gt 57, 3) := by decide +kernel
theorem dX5_rests_13 : decode cX5_rests 13 = .ok (.aload_n 0, 1) := by decide +kernel
theorem dX5_rests_14 : decode cX5_rests 14 = .ok (.getfield 35, 3) := by decide +kernel
theorem dX5_rests_17 : decode cX5_rests 17 = .ok (.iload_n 3, 1) := by decide +kernel
theorem dX5_rests_18 : decode cX5_rests 18 = .ok (.iload_n 2, 1) := by decide +kernel
theorem dX5_rests_19 : decode cX5_rests 19 = .ok (.invokestatic 117, 3) := by decide +kernel
theorem dX5_rests_22 : decode cX5_rests 22 = .ok (.iaload, 1) := by decide +kernel
theorem dX5_rests_23 : decode cX5_rests 23 = .ok (.aload_n 0, 1) := by decide +kernel
theorem dX5_rests_24 : decode cX5_rests 24 = .ok (.getfield 35, 3) := by decide +kernel
theorem dX5_rests_27 : decode cX5_rests 27 = .ok (.iload_n 1, 1) := by decide +kernel
theorem dX5_rests_28 : decode cX5_rests 28 = .ok (.iload_n 2, 1) := by decide +kernel
theorem dX5_rests_29 : decode cX5_rests 29 = .ok (.invokestatic 117, 3) := by decide +kernel
theorem dX5_rests_32 : decode cX5_rests 32 = .ok (.iaload, 1) := by decide +kernel
theorem dX5_rests_33 : decode cX5_rests 33 = .ok (.if_icmp .gt 26, 3) := by decide +kernel
theorem dX5_rests_36 : decode cX5_rests 36 = .ok (.aload_n 0, 1) := by decide +kernel
theorem dX5_rests_37 : decode cX5_rests 37 = .ok (.getfield 38, 3) := by decide +kernel
theorem dX5_rests_40 : decode cX5_rests 40 = .ok (.iload_n 1, 1) := by decide +kernel
theorem dX5_rests_41 : decode cX5_rests 41 = .ok (.iload_n 3, 1) := by decide +kernel
theorem dX5_rests_42 : decode cX5_rests 42 = .ok (.invokestatic 117, 3) := by decide +kernel
theorem dX5_rests_45 : decode cX5_rests 45 = .ok (.iaload, 1) := by decide +kernel
theorem dX5_rests_46 : decode cX5_rests 46 = .ok (.aload_n 0, 1) := by decide +kernel
theorem dX5_rests_47 : decode cX5_rests 47 = .ok (.getfield 38, 3) := by decide +kernel
theorem dX5_rests_50 : decode cX5_rests 50 = .ok (.iload_n 1, 1) := by decide +kernel
theorem dX5_rests_51 : decode cX5_rests 51 = .ok (.iload_n 2, 1) := by decide +kernel
theorem dX5_rests_52 : decode cX5_rests 52 = .ok (.invokestatic 117, 3) := by decide +kernel
theorem dX5_rests_55 : decode cX5_rests 55 = .ok (.iaload, 1) := by decide +kernel
theorem dX5_rests_56 : decode cX5_rests 56 = .ok (.if_icmp .le 5, 3) := by decide +kernel
theorem dX5_rests_59 : decode cX5_rests 59 = .ok (.iconst 0, 1) := by decide +kernel
theorem dX5_rests_60 : decode cX5_rests 60 = .ok (.ireturn, 1) := by decide +kernel
theorem dX5_rests_61 : decode cX5_rests 61 = .ok (.iinc 3 1, 3) := by decide +kernel
theorem dX5_rests_64 : decode cX5_rests 64 = .ok (.goto (-62), 3) := by decide +kernel
theorem dX5_rests_67 : decode cX5_rests 67 = .ok (.iconst 1, 1) := by decide +kernel
theorem dX5_rests_68 : decode cX5_rests 68 = .ok (.ireturn, 1) := by decide +kernel
def fX5_rests_59 (h : gx_H) : Option (Int32 × gx_H) :=
  gx_ret .boolean (0 : Int32) h
def bX5_rests_2 (k2 : Nat → Int32 → Int32 → Int32 → gx_H → Option (Int32 × gx_H)) (v0 : Nat) (v1 : Int32) (v2 : Int32) (v3 : Int32) (h : gx_H) : Option (Int32 × gx_H) :=
  (gx_fR h v0 4 0).bind fun a1 =>
  (gx_fI h a1 0 1).bind fun x2 =>
  if x2 < v3 then
    gx_ret .boolean (1 : Int32) h
  else
    (gx_fR h v0 4 4).bind fun a3 =>
    gx_bd (fX5_pairAt v3 v2 h) fun x5 h4 =>
    (gx_aI 0 h4 a3 x5).bind fun x6 =>
    (gx_fR h4 v0 4 4).bind fun a7 =>
    gx_bd (fX5_pairAt v1 v2 h4) fun x9 h8 =>
    (gx_aI 0 h8 a7 x9).bind fun x10 =>
    if x10 < x6 then
      fX5_rests_59 h8
    else
      (gx_fR h8 v0 4 5).bind fun a11 =>
      gx_bd (fX5_pairAt v1 v3 h8) fun x13 h12 =>
      (gx_aI 0 h12 a11 x13).bind fun x14 =>
      (gx_fR h12 v0 4 5).bind fun a15 =>
      gx_bd (fX5_pairAt v1 v2 h12) fun x17 h16 =>
      (gx_aI 0 h16 a15 x17).bind fun x18 =>
      if x14 ≤ x18 then
        k2 v0 v1 v2 (v3 + (1 : Int32)) h16
      else
        fX5_rests_59 h16
def fX5_rests_2 : Nat → Nat → Int32 → Int32 → Int32 → gx_H → Option (Int32 × gx_H)
  | 0 => fun _ _ _ _ _ => none
  | n + 1 => bX5_rests_2 (fX5_rests_2 n)
def fX5_rests (v0 : Nat) (v1 : Int32) (v2 : Int32) (h : gx_H) : Option (Int32 × gx_H) :=
  (gx_isO h v0 4).bind fun _ =>
  fX5_rests_2 gx_N v0 v1 v2 (1 : Int32) h
set_option maxRecDepth 100000 in
set_option maxHeartbeats 4000000 in
theorem gX5_rests_59 {E : gx_Env} {d : Nat}  : ∀  (h : gx_H), gx_G E RX5 cX5_rests 4 (some .boolean) false (d + 2) 0 0 59 [none, none, none, none] [] h (fun x : Int32 => some (.int x)) (fX5_rests_59 h) := by
  intro  h
  unfold fX5_rests_59
  refine gx_iconst (0 : Int32) dX5_rests_59 (by decide) ?_
  exact gx_zret dX5_rests_60 rfl
set_option maxRecDepth 100000 in
set_option maxHeartbeats 4000000 in
theorem gbX5_rests_2 {E : gx_Env} {d : Nat}  (k2 : Nat → Int32 → Int32 → Int32 → gx_H → Option (Int32 × gx_H)) (hk2 : ∀ (v0 : Nat) (v1 : Int32) (v2 : Int32) (v3 : Int32) (h : gx_H), gx_G E RX5 cX5_rests 4 (some .boolean) false (d + 2) 0 0 2 [some (.ref v0), some (.int v1), some (.int v2), some (.int v3)] [] h (fun x : Int32 => some (.int x)) (k2 v0 v1 v2 v3 h))  : ∀ (v0 : Nat) (v1 : Int32) (v2 : Int32) (v3 : Int32) (h : gx_H), gx_G E RX5 cX5_rests 4 (some .boolean) false (d + 2) 0 0 2 [some (.ref v0), some (.int v1), some (.int v2), some (.int v3)] [] h (fun x : Int32 => some (.int x)) (bX5_rests_2 k2 v0 v1 v2 v3 h) := by
  intro v0 v1 v2 v3 h
  unfold bX5_rests_2
  refine gx_iload_n 3 dX5_rests_2 rfl rfl ?_
  refine gx_aload_n 0 dX5_rests_3 rfl rfl ?_
  refine gx_getR kf_RX5_12 dX5_rests_4 (fun a1 => ?_)
  refine gx_getI kf_RX5_64 dX5_rests_7 (fun x2 => ?_)
  refine gx_icmp_gt 67 dX5_rests_10 (by decide) (fun _ => ?_) (fun _ => ?_)
  · refine gx_iconst (1 : Int32) dX5_rests_67 (by decide) ?_
    exact gx_zret dX5_rests_68 rfl
  · refine gx_aload_n 0 dX5_rests_13 rfl rfl ?_
    refine gx_getR kf_RX5_35 dX5_rests_14 (fun a3 => ?_)
    refine gx_iload_n 3 dX5_rests_17 rfl rfl ?_
    refine gx_iload_n 2 dX5_rests_18 rfl rfl ?_
    refine gx_callS (bc := 0) (bs := 0) (mc := 0) (ms := 0) (em' := (fun x : Int32 => some (.int x))) [.int v3, .int v2] kc_RX5_117 dX5_rests_19 rfl rfl (gx_w8 rfl) (fun _ _ q => okX5_pairAt d q) (fun x5 h4 => ?_)
    refine gx_iald dX5_rests_22 (fun x6 => ?_)
    refine gx_aload_n 0 dX5_rests_23 rfl rfl ?_
    refine gx_getR kf_RX5_35 dX5_rests_24 (fun a7 => ?_)
    refine gx_iload_n 1 dX5_rests_27 rfl rfl ?_
    refine gx_iload_n 2 dX5_rests_28 rfl rfl ?_
    refine gx_callS (bc := 0) (bs := 0) (mc := 0) (ms := 0) (em' := (fun x : Int32 => some (.int x))) [.int v1, .int v2] kc_RX5_117 dX5_rests_29 rfl rfl (gx_w8 rfl) (fun _ _ q => okX5_pairAt d q) (fun x9 h8 => ?_)
    refine gx_iald dX5_rests_32 (fun x10 => ?_)
    refine gx_icmp_gt 59 dX5_rests_33 (by decide) (fun _ => ?_) (fun _ => ?_)
    · exact gx_sub (gX5_rests_59 h8) True.intro
    · refine gx_aload_n 0 dX5_rests_36 rfl rfl ?_
      refine gx_getR kf_RX5_38 dX5_rests_37 (fun a11 => ?_)
      refine gx_iload_n 1 dX5_rests_40 rfl rfl ?_
      refine gx_iload_n 3 dX5_rests_41 rfl rfl ?_
      refine gx_callS (bc := 0) (bs := 0) (mc := 0) (ms := 0) (em' := (fun x : Int32 => some (.int x))) [.int v1, .int v3] kc_RX5_117 dX5_rests_42 rfl rfl (gx_w8 rfl) (fun _ _ q => okX5_pairAt d q) (fun x13 h12 => ?_)
      refine gx_iald dX5_rests_45 (fun x14 => ?_)
      refine gx_aload_n 0 dX5_rests_46 rfl rfl ?_
      refine gx_getR kf_RX5_38 dX5_rests_47 (fun a15 => ?_)
      refine gx_iload_n 1 dX5_rests_50 rfl rfl ?_
      refine gx_iload_n 2 dX5_rests_51 rfl rfl ?_
      refine gx_callS (bc := 0) (bs := 0) (mc := 0) (ms := 0) (em' := (fun x : Int32 => some (.int x))) [.int v1, .int v2] kc_RX5_117 dX5_rests_52 rfl rfl (gx_w8 rfl) (fun _ _ q => okX5_pairAt d q) (fun x17 h16 => ?_)
      refine gx_iald dX5_rests_55 (fun x18 => ?_)
      refine gx_icmp_le 61 dX5_rests_56 (by decide) (fun _ => ?_) (fun _ => ?_)
      · refine gx_iinc (1 : Int32) [some (.ref v0), some (.int v1), some (.int v2), some (.int (v3 + (1 : Int32)))] dX5_rests_61 rfl (by decide) (by decide) rfl ?_
        refine gx_goto 2 dX5_rests_64 (by decide) ?_
        exact gx_sub (hk2 v0 v1 v2 (v3 + (1 : Int32)) h16) (And.intro rfl (And.intro rfl (And.intro rfl (And.intro rfl True.intro))))
      · exact gx_sub (gX5_rests_59 h16) True.intro
set_option maxRecDepth 100000 in
set_option maxHeartbeats 4000000 in
theorem gX5_rests_2 {E : gx_Env} {d : Nat}  : ∀ (n : Nat) (v0 : Nat) (v1 : Int32) (v2 : Int32) (v3 : Int32) (h : gx_H), gx_G E RX5 cX5_rests 4 (some .boolean) false (d + 2) 0 0 2 [some (.ref v0), some (.int v1), some (.int v2), some (.int v3)] [] h (fun x : Int32 => some (.int x)) (fX5_rests_2 n v0 v1 v2 v3 h) := by
  intro n
  induction n with
  | zero => intro v0 v1 v2 v3 h; exact gx_none
  | succ n ih => exact gbX5_rests_2  (fX5_rests_2  n) ih
set_option maxRecDepth 100000 in
set_option maxHeartbeats 4000000 in
theorem geX5_rests {E : gx_Env} {d : Nat} (v0 : Nat) (v1 : Int32) (v2 : Int32) (h : gx_H) : gx_G E RX5 cX5_rests 4 (some .boolean) false (d + 2) 0 0 0 [some (.ref v0), some (.int v1), some (.int v2), none] [] h (fun x : Int32 => some (.int x)) (fX5_rests v0 v1 v2 h) := by
  unfold fX5_rests
  refine gx_bind fun _ _ => ?_
  refine gx_iconst (1 : Int32) dX5_rests_0 (by decide) ?_
  refine gx_istore_n 3 [some (.ref v0), some (.int v1), some (.int v2), some (.int (1 : Int32))] dX5_rests_1 rfl (by decide) rfl ?_
  exact gx_sub (gX5_rests_2 gx_N v0 v1 v2 (1 : Int32) h) (And.intro rfl (And.intro rfl (And.intro rfl (And.intro rfl True.intro))))
theorem okX5_rests {E : gx_Env} (d : Nat) {v0 : Nat} {v1 : Int32} {v2 : Int32} {h : gx_H} {r : Int32} {h1 : gx_H} (q : fX5_rests v0 v1 v2 h = some (r, h1)) : gx_M E yX5_rests cX5_rests 4 (some .boolean) (d + 2) 0 0 [.ref v0, .int v1, .int v2] h ((fun x : Int32 => some (.int x)) r) h1 := gx_meth (y := yX5_rests) (cc := cX5_rests) (nL := 4) (em := (fun x : Int32 => some (.int x))) (ini := false) [.ref v0, .int v1, .int v2] (by decide) (by simp [gx_sl]) (fun q => by cases q) (geX5_rests v0 v1 v2 h) q
theorem dX5_restingPairs_0 : decode cX5_restingPairs 0 = .ok (.iconst 0, 1) := by decide +kernel
theorem dX5_restingPairs_1 : decode cX5_restingPairs 1 = .ok (.istore_n 1, 1) := by decide +kernel
theorem dX5_restingPairs_2 : decode cX5_restingPairs 2 = .ok (.iconst 1, 1) := by decide +kernel
theorem dX5_restingPairs_3 : decode cX5_restingPairs 3 = .ok (.istore_n 2, 1) := by decide +kernel
theorem dX5_restingPairs_4 : decode cX5_restingPairs 4 = .ok (.iload_n 2, 1) := by decide +kernel
theorem dX5_restingPairs_5 : decode cX5_restingPairs 5 = .ok (.aload_n 0, 1) := by decide +kernel
theorem dX5_restingPairs_6 : decode cX5_restingPairs 6 = .ok (.getfield 12, 3) := by decide +kernel
theorem dX5_restingPairs_9 : decode cX5_restingPairs 9 = .ok (.getfield 64, 3) := by decide +kernel
theorem dX5_restingPairs_12 : decode cX5_restingPairs 12 = .ok (.if_icmp .gt 40, 3) := by decide +kernel
theorem dX5_restingPairs_15 : decode cX5_restingPairs 15 = .ok (.iconst 1, 1) := by decide +kernel
theorem dX5_restingPairs_16 : decode cX5_restingPairs 16 = .ok (.istore_n 3, 1) := by decide +kernel
theorem dX5_restingPairs_17 : decode cX5_restingPairs 17 = .ok (.iload_n 3, 1) := by decide +kernel
theorem dX5_restingPairs_18 : decode cX5_restingPairs 18 = .ok (.aload_n 0, 1) := by decide +kernel
theorem dX5_restingPairs_19 : decode cX5_restingPairs 19 = .ok (.getfield 12, 3) := by decide +kernel
theorem dX5_restingPairs_22 : decode cX5_restingPairs 22 = .ok (.getfield 64, 3) := by decide +kernel
theorem dX5_restingPairs_25 : decode cX5_restingPairs 25 = .ok (.if_icmp .gt 21, 3) := by decide +kernel
theorem dX5_restingPairs_28 : decode cX5_restingPairs 28 = .ok (.aload_n 0, 1) := by decide +kernel
theorem dX5_restingPairs_29 : decode cX5_restingPairs 29 = .ok (.iload_n 2, 1) := by decide +kernel
theorem dX5_restingPairs_30 : decode cX5_restingPairs 30 = .ok (.iload_n 3, 1) := by decide +kernel
theorem dX5_restingPairs_31 : decode cX5_restingPairs 31 = .ok (.invokevirtual 124, 3) := by decide +kernel
theorem dX5_restingPairs_34 : decode cX5_restingPairs 34 = .ok (.ifCond .eq 6, 3) := by decide +kernel
theorem dX5_restingPairs_37 : decode cX5_restingPairs 37 = .ok (.iinc 1 1, 3) := by decide +kernel
theorem dX5_restingPairs_40 : decode cX5_restingPairs 40 = .ok (.iinc 3 1, 3) := by decide +kernel
theorem dX5_restingPairs_43 : decode cX5_restingPairs 43 = .ok (.goto (-26), 3) := by decide +kernel
theorem dX5_restingPairs_46 : decode cX5_restingPairs 46 = .ok (.iinc 2 1, 3) := by decide +kernel
theorem dX5_restingPairs_49 : decode cX5_restingPairs 49 = .ok (.goto (-45), 3) := by decide +kernel
theorem dX5_restingPairs_52 : decode cX5_restingPairs 52 = .ok (.iload_n 1, 1) := by decide +kernel
theorem dX5_restingPairs_53 : decode cX5_restingPairs 53 = .ok (.ireturn, 1) := by decide +kernel
def fX5_restingPairs_40 (k4 : Nat → Int32 → Int32 → gx_H → Option (Int32 × gx_H)) (k17 : Nat → Int32 → Int32 → Int32 → gx_H → Option (Int32 × gx_H)) (v0 : Nat) (v1 : Int32) (v2 : Int32) (v3 : Int32) (h : gx_H) : Option (Int32 × gx_H) :=
  k17 v0 v1 v2 (v3 + (1 : Int32)) h
def bX5_restingPairs_17 (k4 : Nat → Int32 → Int32 → gx_H → Option (Int32 × gx_H)) (k17 : Nat → Int32 → Int32 → Int32 → gx_H → Option (Int32 × gx_H)) (v0 : Nat) (v1 : Int32) (v2 : Int32) (v3 : Int32) (h : gx_H) : Option (Int32 × gx_H) :=
  (gx_fR h v0 4 0).bind fun a3 =>
  (gx_fI h a3 0 1).bind fun x4 =>
  if x4 < v3 then
    k4 v0 v1 (v2 + (1 : Int32)) h
  else
    gx_bd (fX5_rests v0 v2 v3 h) fun x6 h5 =>
    if x6 = 0 then
      fX5_restingPairs_40 k4 k17 v0 v1 v2 v3 h5
    else
      fX5_restingPairs_40 k4 k17 v0 (v1 + (1 : Int32)) v2 v3 h5
def fX5_restingPairs_17 (k4 : Nat → Int32 → Int32 → gx_H → Option (Int32 × gx_H)) : Nat → Nat → Int32 → Int32 → Int32 → gx_H → Option (Int32 × gx_H)
  | 0 => fun _ _ _ _ _ => none
  | n + 1 => bX5_restingPairs_17 k4 (fX5_restingPairs_17 k4 n)
def bX5_restingPairs_4 (k4 : Nat → Int32 → Int32 → gx_H → Option (Int32 × gx_H)) (v0 : Nat) (v1 : Int32) (v2 : Int32) (h : gx_H) : Option (Int32 × gx_H) :=
  (gx_fR h v0 4 0).bind fun a1 =>
  (gx_fI h a1 0 1).bind fun x2 =>
  if x2 < v2 then
    some (v1, h)
  else
    fX5_restingPairs_17 k4 gx_N v0 v1 v2 (1 : Int32) h
def fX5_restingPairs_4 : Nat → Nat → Int32 → Int32 → gx_H → Option (Int32 × gx_H)
  | 0 => fun _ _ _ _ => none
  | n + 1 => bX5_restingPairs_4 (fX5_restingPairs_4 n)
def fX5_restingPairs (v0 : Nat) (h : gx_H) : Option (Int32 × gx_H) :=
  (gx_isO h v0 4).bind fun _ =>
  fX5_restingPairs_4 gx_N v0 (0 : Int32) (1 : Int32) h
set_option maxRecDepth 100000 in
set_option maxHeartbeats 4000000 in
theorem gX5_restingPairs_40 {E : gx_Env} {d : Nat} (k4 : Nat → Int32 → Int32 → gx_H → Option (Int32 × gx_H)) (hk4 : ∀ (v0 : Nat) (v1 : Int32) (v2 : Int32) (h : gx_H), gx_G E RX5 cX5_restingPairs 4 (some .int) false (d + 3) 0 0 4 [some (.ref v0), some (.int v1), some (.int v2), none] [] h (fun x : Int32 => some (.int x)) (k4 v0 v1 v2 h))  (k17 : Nat → Int32 → Int32 → Int32 → gx_H → Option (Int32 × gx_H)) (hk17 : ∀ (v0 : Nat) (v1 : Int32) (v2 : Int32) (v3 : Int32) (h : gx_H), gx_G E RX5 cX5_restingPairs 4 (some .int) false (d + 3) 0 0 17 [some (.ref v0), some (.int v1), some (.int v2), some (.int v3)] [] h (fun x : Int32 => some (.int x)) (k17 v0 v1 v2 v3 h))  : ∀ (v0 : Nat) (v1 : Int32) (v2 : Int32) (v3 : Int32) (h : gx_H), gx_G E RX5 cX5_restingPairs 4 (some .int) false (d + 3) 0 0 40 [some (.ref v0), some (.int v1), some (.int v2), some (.int v3)] [] h (fun x : Int32 => some (.int x)) (fX5_restingPairs_40 k4 k17 v0 v1 v2 v3 h) := by
  intro v0 v1 v2 v3 h
  unfold fX5_restingPairs_40
  refine gx_iinc (1 : Int32) [some (.ref v0), some (.int v1), some (.int v2), some (.int (v3 + (1 : Int32)))] dX5_restingPairs_40 rfl (by decide) (by decide) rfl ?_
  refine gx_goto 17 dX5_restingPairs_43 (by decide) ?_
  exact gx_sub (hk17 v0 v1 v2 (v3 + (1 : Int32)) h) (And.intro rfl (And.intro rfl (And.intro rfl (And.intro rfl True.intro))))
set_option maxRecDepth 100000 in
set_option maxHeartbeats 4000000 in
theorem gbX5_restingPairs_17 {E : gx_Env} {d : Nat} (k4 : Nat → Int32 → Int32 → gx_H → Option (Int32 × gx_H)) (hk4 : ∀ (v0 : Nat) (v1 : Int32) (v2 : Int32) (h : gx_H), gx_G E RX5 cX5_restingPairs 4 (some .int) false (d + 3) 0 0 4 [some (.ref v0), some (.int v1), some (.int v2), none] [] h (fun x : Int32 => some (.int x)) (k4 v0 v1 v2 h))  (k17 : Nat → Int32 → Int32 → Int32 → gx_H → Option (Int32 × gx_H)) (hk17 : ∀ (v0 : Nat) (v1 : Int32) (v2 : Int32) (v3 : Int32) (h : gx_H), gx_G E RX5 cX5_restingPairs 4 (some .int) false (d + 3) 0 0 17 [some (.ref v0), some (.int v1), some (.int v2), some (.int v3)] [] h (fun x : Int32 => some (.int x)) (k17 v0 v1 v2 v3 h))  : ∀ (v0 : Nat) (v1 : Int32) (v2 : Int32) (v3 : Int32) (h : gx_H), gx_G E RX5 cX5_restingPairs 4 (some .int) false (d + 3) 0 0 17 [some (.ref v0), some (.int v1), some (.int v2), some (.int v3)] [] h (fun x : Int32 => some (.int x)) (bX5_restingPairs_17 k4 k17 v0 v1 v2 v3 h) := by
  intro v0 v1 v2 v3 h
  unfold bX5_restingPairs_17
  refine gx_iload_n 3 dX5_restingPairs_17 rfl rfl ?_
  refine gx_aload_n 0 dX5_restingPairs_18 rfl rfl ?_
  refine gx_getR kf_RX5_12 dX5_restingPairs_19 (fun a3 => ?_)
  refine gx_getI kf_RX5_64 dX5_restingPairs_22 (fun x4 => ?_)
  refine gx_icmp_gt 46 dX5_restingPairs_25 (by decide) (fun _ => ?_) (fun _ => ?_)
  · refine gx_iinc (1 : Int32) [some (.ref v0), some (.int v1), some (.int (v2 + (1 : Int32))), some (.int v3)] dX5_restingPairs_46 rfl (by decide) (by decide) rfl ?_
    refine gx_goto 4 dX5_restingPairs_49 (by decide) ?_
    exact gx_sub (hk4 v0 v1 (v2 + (1 : Int32)) h) (And.intro rfl (And.intro rfl (And.intro rfl True.intro)))
  · refine gx_aload_n 0 dX5_restingPairs_28 rfl rfl ?_
    refine gx_iload_n 2 dX5_restingPairs_29 rfl rfl ?_
    refine gx_iload_n 3 dX5_restingPairs_30 rfl rfl ?_
    refine gx_callV (ci := 4) (bc := 0) (bs := 0) (mc := 0) (ms := 0) (em' := (fun x : Int32 => some (.int x))) [.int v2, .int v3] kc_RX5_124 rfl dX5_restingPairs_31 rfl rfl (gx_w8 rfl) (fun x q => (gx_isO_of (by unfold fX5_rests at q; exact q)).2) (fun _ _ q => okX5_rests d q) (fun x6 h5 => ?_)
    refine gx_if_eq 40 dX5_restingPairs_34 (by decide) (fun _ => ?_) (fun _ => ?_)
    · exact gx_sub (gX5_restingPairs_40 k4 hk4 k17 hk17 v0 v1 v2 v3 h5) (And.intro rfl (And.intro rfl (And.intro rfl (And.intro rfl True.intro))))
    · refine gx_iinc (1 : Int32) [some (.ref v0), some (.int (v1 + (1 : Int32))), some (.int v2), some (.int v3)] dX5_restingPairs_37 rfl (by decide) (by decide) rfl ?_
      exact gx_sub (gX5_restingPairs_40 k4 hk4 k17 hk17 v0 (v1 + (1 : Int32)) v2 v3 h5) (And.intro rfl (And.intro rfl (And.intro rfl (And.intro rfl True.intro))))
set_option maxRecDepth 100000 in
set_option maxHeartbeats 4000000 in
theorem gX5_restingPairs_17 {E : gx_Env} {d : Nat} (k4 : Nat → Int32 → Int32 → gx_H → Option (Int32 × gx_H)) (hk4 : ∀ (v0 : Nat) (v1 : Int32) (v2 : Int32) (h : gx_H), gx_G E RX5 cX5_restingPairs 4 (some .int) false (d + 3) 0 0 4 [some (.ref v0), some (.int v1), some (.int v2), none] [] h (fun x : Int32 => some (.int x)) (k4 v0 v1 v2 h))  : ∀ (n : Nat) (v0 : Nat) (v1 : Int32) (v2 : Int32) (v3 : Int32) (h : gx_H), gx_G E RX5 cX5_restingPairs 4 (some .int) false (d + 3) 0 0 17 [some (.ref v0), some (.int v1), some (.int v2), some (.int v3)] [] h (fun x : Int32 => some (.int x)) (fX5_restingPairs_17 k4 n v0 v1 v2 v3 h) := by
  intro n
  induction n with
  | zero => intro v0 v1 v2 v3 h; exact gx_none
  | succ n ih => exact gbX5_restingPairs_17 k4 hk4 (fX5_restingPairs_17 k4 n) ih
set_option maxRecDepth 100000 in
set_option maxHeartbeats 4000000 in
theorem gbX5_restingPairs_4 {E : gx_Env} {d : Nat}  (k4 : Nat → Int32 → Int32 → gx_H → Option (Int32 × gx_H)) (hk4 : ∀ (v0 : Nat) (v1 : Int32) (v2 : Int32) (h : gx_H), gx_G E RX5 cX5_restingPairs 4 (some .int) false (d + 3) 0 0 4 [some (.ref v0), some (.int v1), some (.int v2), none] [] h (fun x : Int32 => some (.int x)) (k4 v0 v1 v2 h))  : ∀ (v0 : Nat) (v1 : Int32) (v2 : Int32) (h : gx_H), gx_G E RX5 cX5_restingPairs 4 (some .int) false (d + 3) 0 0 4 [some (.ref v0), some (.int v1), some (.int v2), none] [] h (fun x : Int32 => some (.int x)) (bX5_restingPairs_4 k4 v0 v1 v2 h) := by
  intro v0 v1 v2 h
  unfold bX5_restingPairs_4
  refine gx_iload_n 2 dX5_restingPairs_4 rfl rfl ?_
  refine gx_aload_n 0 dX5_restingPairs_5 rfl rfl ?_
  refine gx_getR kf_RX5_12 dX5_restingPairs_6 (fun a1 => ?_)
  refine gx_getI kf_RX5_64 dX5_restingPairs_9 (fun x2 => ?_)
  refine gx_icmp_gt 52 dX5_restingPairs_12 (by decide) (fun _ => ?_) (fun _ => ?_)
  · refine gx_iload_n 1 dX5_restingPairs_52 rfl rfl ?_
    exact gx_iret dX5_restingPairs_53 rfl
  · refine gx_iconst (1 : Int32) dX5_restingPairs_15 (by decide) ?_
    refine gx_istore_n 3 [some (.ref v0), some (.int v1), some (.int v2), some (.int (1 : Int32))] dX5_restingPairs_16 rfl (by decide) rfl ?_
    exact gx_sub (gX5_restingPairs_17 k4 hk4 gx_N v0 v1 v2 (1 : Int32) h) (And.intro rfl (And.intro rfl (And.intro rfl (And.intro rfl True.intro))))
set_option maxRecDepth 100000 in
set_option maxHeartbeats 4000000 in
theorem gX5_restingPairs_4 {E : gx_Env} {d : Nat}  : ∀ (n : Nat) (v0 : Nat) (v1 : Int32) (v2 : Int32) (h : gx_H), gx_G E RX5 cX5_restingPairs 4 (some .int) false (d + 3) 0 0 4 [some (.ref v0), some (.int v1), some (.int v2), none] [] h (fun x : Int32 => some (.int x)) (fX5_restingPairs_4 n v0 v1 v2 h) := by
  intro n
  induction n with
  | zero => intro v0 v1 v2 h; exact gx_none
  | succ n ih => exact gbX5_restingPairs_4  (fX5_restingPairs_4  n) ih
set_option maxRecDepth 100000 in
set_option maxHeartbeats 4000000 in
theorem geX5_restingPairs {E : gx_Env} {d : Nat} (v0 : Nat) (h : gx_H) : gx_G E RX5 cX5_restingPairs 4 (some .int) false (d + 3) 0 0 0 [some (.ref v0), none, none, none] [] h (fun x : Int32 => some (.int x)) (fX5_restingPairs v0 h) := by
  unfold fX5_restingPairs
  refine gx_bind fun _ _ => ?_
  refine gx_iconst (0 : Int32) dX5_restingPairs_0 (by decide) ?_
  refine gx_istore_n 1 [some (.ref v0), some (.int (0 : Int32)), none, none] dX5_restingPairs_1 rfl (by decide) rfl ?_
  refine gx_iconst (1 : Int32) dX5_restingPairs_2 (by decide) ?_
  refine gx_istore_n 2 [some (.ref v0), some (.int (0 : Int32)), some (.int (1 : Int32)), none] dX5_restingPairs_3 rfl (by decide) rfl ?_
  exact gx_sub (gX5_restingPairs_4 gx_N v0 (0 : Int32) (1 : Int32) h) (And.intro rfl (And.intro rfl (And.intro rfl True.intro)))
theorem okX5_restingPairs {E : gx_Env} (d : Nat) {v0 : Nat} {h : gx_H} {r : Int32} {h1 : gx_H} (q : fX5_restingPairs v0 h = some (r, h1)) : gx_M E yX5_restingPairs cX5_restingPairs 4 (some .int) (d + 3) 0 0 [.ref v0] h ((fun x : Int32 => some (.int x)) r) h1 := gx_meth (y := yX5_restingPairs) (cc := cX5_restingPairs) (nL := 4) (em := (fun x : Int32 => some (.int x))) (ini := false) [.ref v0] (by decide) (by simp [gx_sl]) (fun q => by cases q) (geX5_restingPairs v0 h) q
theorem dX5_restingPair_0 : decode cX5_restingPair 0 = .ok (.iconst 0, 1) := by decide +kernel
theorem dX5_restingPair_1 : decode cX5_restingPair 1 = .ok (.istore_n 2, 1) := by decide +kernel
theorem dX5_restingPair_2 : decode cX5_restingPair 2 = .ok (.iconst 1, 1) := by decide +kernel
theorem dX5_restingPair_3 : decode cX5_restingPair 3 = .ok (.istore_n 3, 1) := by decide +kernel
theorem dX5_restingPair_4 : decode cX5_restingPair 4 = .ok (.iload_n 3, 1) := by decide +kernel
theorem dX5_restingPair_5 : decode cX5_restingPair 5 = .ok (.aload_n 0, 1) := by decide +kernel
theorem dX5_restingPair_6 : decode cX5_restingPair 6 = .ok (.getfield 12, 3) := by decide +kernel
theorem dX5_restingPair_9 : decode cX5_restingPair 9 = .ok (.getfield 64, 3) := by decide +kernel
theorem dX5_restingPair_12 : decode cX5_restingPair 12 = .ok (.if_icmp .gt 56, 3) := by decide +kernel
theorem dX5_restingPair_15 : decode cX5_restingPair 15 = .ok (.iconst 1, 1) := by decide +kernel
theorem dX5_restingPair_16 : decode cX5_restingPair 16 = .ok (.istore 4, 2) := by decide +kernel
theorem dX5_restingPair_18 : decode cX5_restingPair 18 = .ok (.iload 4, 2) := by decide +kernel
theorem dX5_restingPair_20 : decode cX5_restingPair 20 = .ok (.aload_n 0, 1) := by decide +kernel
theorem dX5_restingPair_21 : decode cX5_restingPair 21 = .ok (.getfield 12, 3) := by decide +kernel
theorem dX5_restingPair_24 : decode cX5_restingPair 24 = .ok (.getfield 64, 3) := by decide +kernel
theorem dX5_restingPair_27 : decode cX5_restingPair 27 = .ok (.if_icmp .gt 35, 3) := by decide +kernel
theorem dX5_restingPair_30 : decode cX5_restingPair 30 = .ok (.aload_n 0, 1) := by decide +kernel
theorem dX5_restingPair_31 : decode cX5_restingPair 31 = .ok (.iload_n 3, 1) := by decide +kernel
theorem dX5_restingPair_32 : decode cX5_restingPair 32 = .ok (.iload 4, 2) := by decide +kernel
theorem dX5_restingPair_34 : decode cX5_restingPair 34 = .ok (.invokevirtual 124, 3) := by decide +kernel
theorem dX5_restingPair_37 : decode cX5_restingPair 37 = .ok (.ifCond .eq 19, 3) := by decide +kernel
theorem dX5_restingPair_40 : decode cX5_restingPair 40 = .ok (.iload_n 2, 1) := by decide +kernel
theorem dX5_restingPair_41 : decode cX5_restingPair 41 = .ok (.iload_n 1, 1) := by decide +kernel
theorem dX5_restingPair_42 : decode cX5_restingPair 42 = .ok (.if_icmp .ne 11, 3) := by decide +kernel
theorem dX5_restingPair_45 : decode cX5_restingPair 45 = .ok (.bipush 10, 2) := by decide +kernel
theorem dX5_restingPair_47 : decode cX5_restingPair 47 = .ok (.iload_n 3, 1) := by decide +kernel
theorem dX5_restingPair_48 : decode cX5_restingPair 48 = .ok (.imul, 1) := by decide +kernel
theorem dX5_restingPair_49 : decode cX5_restingPair 49 = .ok (.iload 4, 2) := by decide +kernel
theorem dX5_restingPair_51 : decode cX5_restingPair 51 = .ok (.iadd, 1) := by decide +kernel
theorem dX5_restingPair_52 : decode cX5_restingPair 52 = .ok (.ireturn, 1) := by decide +kernel
theorem dX5_restingPair_53 : decode cX5_restingPair 53 = .ok (.iinc 2 1, 3) := by decide +kernel
theorem dX5_restingPair_56 : decode cX5_restingPair 56 = .ok (.iinc 4 1, 3) := by decide +kernel
theorem dX5_restingPair_59 : decode cX5_restingPair 59 = .ok (.goto (-41), 3) := by decide +kernel
theorem dX5_restingPair_62 : decode cX5_restingPair 62 = .ok (.iinc 3 1, 3) := by decide +kernel
theorem dX5_restingPair_65 : decode cX5_restingPair 65 = .ok (.goto (-61), 3) := by decide +kernel
theorem dX5_restingPair_68 : decode cX5_restingPair 68 = .ok (.iconst (-1), 1) := by decide +kernel
theorem dX5_restingPair_69 : decode cX5_restingPair 69 = .ok (.ireturn, 1) := by decide +kernel
def fX5_restingPair_56 (k4 : Nat → Int32 → Int32 → Int32 → gx_H → Option (Int32 × gx_H)) (k18 : Nat → Int32 → Int32 → Int32 → Int32 → gx_H → Option (Int32 × gx_H)) (v0 : Nat) (v1 : Int32) (v2 : Int32) (v3 : Int32) (v4 : Int32) (h : gx_H) : Option (Int32 × gx_H) :=
  k18 v0 v1 v2 v3 (v4 + (1 : Int32)) h
def bX5_restingPair_18 (k4 : Nat → Int32 → Int32 → Int32 → gx_H → Option (Int32 × gx_H)) (k18 : Nat → Int32 → Int32 → Int32 → Int32 → gx_H → Option (Int32 × gx_H)) (v0 : Nat) (v1 : Int32) (v2 : Int32) (v3 : Int32) (v4 : Int32) (h : gx_H) : Option (Int32 × gx_H) :=
  (gx_fR h v0 4 0).bind fun a3 =>
  (gx_fI h a3 0 1).bind fun x4 =>
  if x4 < v4 then
    k4 v0 v1 v2 (v3 + (1 : Int32)) h
  else
    gx_bd (fX5_rests v0 v3 v4 h) fun x6 h5 =>
    if x6 = 0 then
      fX5_restingPair_56 k4 k18 v0 v1 v2 v3 v4 h5
    else
      if v2 = v1 then
        some ((((10 : Int32) * v3) + v4), h5)
      else
        fX5_restingPair_56 k4 k18 v0 v1 (v2 + (1 : Int32)) v3 v4 h5
def fX5_restingPair_18 (k4 : Nat → Int32 → Int32 → Int32 → gx_H → Option (Int32 × gx_H)) : Nat → Nat → Int32 → Int32 → Int32 → Int32 → gx_H → Option (Int32 × gx_H)
  | 0 => fun _ _ _ _ _ _ => none
  | n + 1 => bX5_restingPair_18 k4 (fX5_restingPair_18 k4 n)
def bX5_restingPair_4 (k4 : Nat → Int32 → Int32 → Int32 → gx_H → Option (Int32 × gx_H)) (v0 : Nat) (v1 : Int32) (v2 : Int32) (v3 : Int32) (h : gx_H) : Option (Int32 × gx_H) :=
  (gx_fR h v0 4 0).bind fun a1 =>
  (gx_fI h a1 0 1).bind fun x2 =>
  if x2 < v3 then
    some ((-1 : Int32), h)
  else
    fX5_restingPair_18 k4 gx_N v0 v1 v2 v3 (1 : Int32) h
def fX5_restingPair_4 : Nat → Nat → Int32 → Int32 → Int32 → gx_H → Option (Int32 × gx_H)
  | 0 => fun _ _ _ _ _ => none
  | n + 1 => bX5_restingPair_4 (fX5_restingPair_4 n)
def fX5_restingPair (v0 : Nat) (v1 : Int32) (h : gx_H) : Option (Int32 × gx_H) :=
  (gx_isO h v0 4).bind fun _ =>
  fX5_restingPair_4 gx_N v0 v1 (0 : Int32) (1 : Int32) h
set_option maxRecDepth 100000 in
set_option maxHeartbeats 4000000 in
theorem gX5_restingPair_56 {E : gx_Env} {d : Nat} (k4 : Nat → Int32 → Int32 → Int32 → gx_H → Option (Int32 × gx_H)) (hk4 : ∀ (v0 : Nat) (v1 : Int32) (v2 : Int32) (v3 : Int32) (h : gx_H), gx_G E RX5 cX5_restingPair 5 (some .int) false (d + 3) 0 0 4 [some (.ref v0), some (.int v1), some (.int v2), some (.int v3), none] [] h (fun x : Int32 => some (.int x)) (k4 v0 v1 v2 v3 h))  (k18 : Nat → Int32 → Int32 → Int32 → Int32 → gx_H → Option (Int32 × gx_H)) (hk18 : ∀ (v0 : Nat) (v1 : Int32) (v2 : Int32) (v3 : Int32) (v4 : Int32) (h : gx_H), gx_G E RX5 cX5_restingPair 5 (some .int) false (d + 3) 0 0 18 [some (.ref v0), some (.int v1), some (.int v2), some (.int v3), some (.int v4)] [] h (fun x : Int32 => some (.int x)) (k18 v0 v1 v2 v3 v4 h))  : ∀ (v0 : Nat) (v1 : Int32) (v2 : Int32) (v3 : Int32) (v4 : Int32) (h : gx_H), gx_G E RX5 cX5_restingPair 5 (some .int) false (d + 3) 0 0 56 [some (.ref v0), some (.int v1), some (.int v2), some (.int v3), some (.int v4)] [] h (fun x : Int32 => some (.int x)) (fX5_restingPair_56 k4 k18 v0 v1 v2 v3 v4 h) := by
  intro v0 v1 v2 v3 v4 h
  unfold fX5_restingPair_56
  refine gx_iinc (1 : Int32) [some (.ref v0), some (.int v1), some (.int v2), some (.int v3), some (.int (v4 + (1 : Int32)))] dX5_restingPair_56 rfl (by decide) (by decide) rfl ?_
  refine gx_goto 18 dX5_restingPair_59 (by decide) ?_
  exact gx_sub (hk18 v0 v1 v2 v3 (v4 + (1 : Int32)) h) (And.intro rfl (And.intro rfl (And.intro rfl (And.intro rfl (And.intro rfl True.intro)))))
set_option maxRecDepth 100000 in
set_option maxHeartbeats 4000000 in
theorem gbX5_restingPair_18 {E : gx_Env} {d : Nat} (k4 : Nat → Int32 → Int32 → Int32 → gx_H → Option (Int32 × gx_H)) (hk4 : ∀ (v0 : Nat) (v1 : Int32) (v2 : Int32) (v3 : Int32) (h : gx_H), gx_G E RX5 cX5_restingPair 5 (some .int) false (d + 3) 0 0 4 [some (.ref v0), some (.int v1), some (.int v2), some (.int v3), none] [] h (fun x : Int32 => some (.int x)) (k4 v0 v1 v2 v3 h))  (k18 : Nat → Int32 → Int32 → Int32 → Int32 → gx_H → Option (Int32 × gx_H)) (hk18 : ∀ (v0 : Nat) (v1 : Int32) (v2 : Int32) (v3 : Int32) (v4 : Int32) (h : gx_H), gx_G E RX5 cX5_restingPair 5 (some .int) false (d + 3) 0 0 18 [some (.ref v0), some (.int v1), some (.int v2), some (.int v3), some (.int v4)] [] h (fun x : Int32 => some (.int x)) (k18 v0 v1 v2 v3 v4 h))  : ∀ (v0 : Nat) (v1 : Int32) (v2 : Int32) (v3 : Int32) (v4 : Int32) (h : gx_H), gx_G E RX5 cX5_restingPair 5 (some .int) false (d + 3) 0 0 18 [some (.ref v0), some (.int v1), some (.int v2), some (.int v3), some (.int v4)] [] h (fun x : Int32 => some (.int x)) (bX5_restingPair_18 k4 k18 v0 v1 v2 v3 v4 h) := by
  intro v0 v1 v2 v3 v4 h
  unfold bX5_restingPair_18
  refine gx_iload dX5_restingPair_18 rfl ?_
  refine gx_aload_n 0 dX5_restingPair_20 rfl rfl ?_
  refine gx_getR kf_RX5_12 dX5_restingPair_21 (fun a3 => ?_)
  refine gx_getI kf_RX5_64 dX5_restingPair_24 (fun x4 => ?_)
  refine gx_icmp_gt 62 dX5_restingPair_27 (by decide) (fun _ => ?_) (fun _ => ?_)
  · refine gx_iinc (1 : Int32) [some (.ref v0), some (.int v1), some (.int v2), some (.int (v3 + (1 : Int32))), some (.int v4)] dX5_restingPair_62 rfl (by decide) (by decide) rfl ?_
    refine gx_goto 4 dX5_restingPair_65 (by decide) ?_
    exact gx_sub (hk4 v0 v1 v2 (v3 + (1 : Int32)) h) (And.intro rfl (And.intro rfl (And.intro rfl (And.intro rfl True.intro))))
  · refine gx_aload_n 0 dX5_restingPair_30 rfl rfl ?_
    refine gx_iload_n 3 dX5_restingPair_31 rfl rfl ?_
    refine gx_iload dX5_restingPair_32 rfl ?_
    refine gx_callV (ci := 4) (bc := 0) (bs := 0) (mc := 0) (ms := 0) (em' := (fun x : Int32 => some (.int x))) [.int v3, .int v4] kc_RX5_124 rfl dX5_restingPair_34 rfl rfl (gx_w8 rfl) (fun x q => (gx_isO_of (by unfold fX5_rests at q; exact q)).2) (fun _ _ q => okX5_rests d q) (fun x6 h5 => ?_)
    refine gx_if_eq 56 dX5_restingPair_37 (by decide) (fun _ => ?_) (fun _ => ?_)
    · exact gx_sub (gX5_restingPair_56 k4 hk4 k18 hk18 v0 v1 v2 v3 v4 h5) (And.intro rfl (And.intro rfl (And.intro rfl (And.intro rfl (And.intro rfl True.intro)))))
    · refine gx_iload_n 2 dX5_restingPair_40 rfl rfl ?_
      refine gx_iload_n 1 dX5_restingPair_41 rfl rfl ?_
      refine gx_icmp_ne 53 dX5_restingPair_42 (by decide) (fun _ => ?_) (fun _ => ?_)
      · refine gx_iinc (1 : Int32) [some (.ref v0), some (.int v1), some (.int (v2 + (1 : Int32))), some (.int v3), some (.int v4)] dX5_restingPair_53 rfl (by decide) (by decide) rfl ?_
        exact gx_sub (gX5_restingPair_56 k4 hk4 k18 hk18 v0 v1 (v2 + (1 : Int32)) v3 v4 h5) (And.intro rfl (And.intro rfl (And.intro rfl (And.intro rfl (And.intro rfl True.intro)))))
      · refine gx_bipush (10 : Int32) dX5_restingPair_45 (by decide) ?_
        refine gx_iload_n 3 dX5_restingPair_47 rfl rfl ?_
        refine gx_imul dX5_restingPair_48 ?_
        refine gx_iload dX5_restingPair_49 rfl ?_
        refine gx_iadd dX5_restingPair_51 ?_
        exact gx_iret dX5_restingPair_52 rfl
set_option maxRecDepth 100000 in
set_option maxHeartbeats 4000000 in
theorem gX5_restingPair_18 {E : gx_Env} {d : Nat} (k4 : Nat → Int32 → Int32 → Int32 → gx_H → Option (Int32 × gx_H)) (hk4 : ∀ (v0 : Nat) (v1 : Int32) (v2 : Int32) (v3 : Int32) (h : gx_H), gx_G E RX5 cX5_restingPair 5 (some .int) false (d + 3) 0 0 4 [some (.ref v0), some (.int v1), some (.int v2), some (.int v3), none] [] h (fun x : Int32 => some (.int x)) (k4 v0 v1 v2 v3 h))  : ∀ (n : Nat) (v0 : Nat) (v1 : Int32) (v2 : Int32) (v3 : Int32) (v4 : Int32) (h : gx_H), gx_G E RX5 cX5_restingPair 5 (some .int) false (d + 3) 0 0 18 [some (.ref v0), some (.int v1), some (.int v2), some (.int v3), some (.int v4)] [] h (fun x : Int32 => some (.int x)) (fX5_restingPair_18 k4 n v0 v1 v2 v3 v4 h) := by
  intro n
  induction n with
  | zero => intro v0 v1 v2 v3 v4 h; exact gx_none
  | succ n ih => exact gbX5_restingPair_18 k4 hk4 (fX5_restingPair_18 k4 n) ih
set_option maxRecDepth 100000 in
set_option maxHeartbeats 4000000 in
theorem gbX5_restingPair_4 {E : gx_Env} {d : Nat}  (k4 : Nat → Int32 → Int32 → Int32 → gx_H → Option (Int32 × gx_H)) (hk4 : ∀ (v0 : Nat) (v1 : Int32) (v2 : Int32) (v3 : Int32) (h : gx_H), gx_G E RX5 cX5_restingPair 5 (some .int) false (d + 3) 0 0 4 [some (.ref v0), some (.int v1), some (.int v2), some (.int v3), none] [] h (fun x : Int32 => some (.int x)) (k4 v0 v1 v2 v3 h))  : ∀ (v0 : Nat) (v1 : Int32) (v2 : Int32) (v3 : Int32) (h : gx_H), gx_G E RX5 cX5_restingPair 5 (some .int) false (d + 3) 0 0 4 [some (.ref v0), some (.int v1), some (.int v2), some (.int v3), none] [] h (fun x : Int32 => some (.int x)) (bX5_restingPair_4 k4 v0 v1 v2 v3 h) := by
  intro v0 v1 v2 v3 h
  unfold bX5_restingPair_4
  refine gx_iload_n 3 dX5_restingPair_4 rfl rfl ?_
  refine gx_aload_n 0 dX5_restingPair_5 rfl rfl ?_
  refine gx_getR kf_RX5_12 dX5_restingPair_6 (fun a1 => ?_)
  refine gx_getI kf_RX5_64 dX5_restingPair_9 (fun x2 => ?_)
  refine gx_icmp_gt 68 dX5_restingPair_12 (by decide) (fun _ => ?_) (fun _ => ?_)
  · refine gx_iconst (-1 : Int32) dX5_restingPair_68 (by decide) ?_
    exact gx_iret dX5_restingPair_69 rfl
  · refine gx_iconst (1 : Int32) dX5_restingPair_15 (by decide) ?_
    refine gx_istore [some (.ref v0), some (.int v1), some (.int v2), some (.int v3), some (.int (1 : Int32))] dX5_restingPair_16 (by decide) rfl ?_
    exact gx_sub (gX5_restingPair_18 k4 hk4 gx_N v0 v1 v2 v3 (1 : Int32) h) (And.intro rfl (And.intro rfl (And.intro rfl (And.intro rfl (And.intro rfl True.intro)))))
set_option maxRecDepth 100000 in
set_option maxHeartbeats 4000000 in
theorem gX5_restingPair_4 {E : gx_Env} {d : Nat}  : ∀ (n : Nat) (v0 : Nat) (v1 : Int32) (v2 : Int32) (v3 : Int32) (h : gx_H), gx_G E RX5 cX5_restingPair 5 (some .int) false (d + 3) 0 0 4 [some (.ref v0), some (.int v1), some (.int v2), some (.int v3), none] [] h (fun x : Int32 => some (.int x)) (fX5_restingPair_4 n v0 v1 v2 v3 h) := by
  intro n
  induction n with
  | zero => intro v0 v1 v2 v3 h; exact gx_none
  | succ n ih => exact gbX5_restingPair_4  (fX5_restingPair_4  n) ih
set_option maxRecDepth 100000 in
set_option maxHeartbeats 4000000 in
theorem geX5_restingPair {E : gx_Env} {d : Nat} (v0 : Nat) (v1 : Int32) (h : gx_H) : gx_G E RX5 cX5_restingPair 5 (some .int) false (d + 3) 0 0 0 [some (.ref v0), some (.int v1), none, none, none] [] h (fun x : Int32 => some (.int x)) (fX5_restingPair v0 v1 h) := by
  unfold fX5_restingPair
  refine gx_bind fun _ _ => ?_
  refine gx_iconst (0 : Int32) dX5_restingPair_0 (by decide) ?_
  refine gx_istore_n 2 [some (.ref v0), some (.int v1), some (.int (0 : Int32)), none, none] dX5_restingPair_1 rfl (by decide) rfl ?_
  refine gx_iconst (1 : Int32) dX5_restingPair_2 (by decide) ?_
  refine gx_istore_n 3 [some (.ref v0), some (.int v1), some (.int (0 : Int32)), some (.int (1 : Int32)), none] dX5_restingPair_3 rfl (by decide) rfl ?_
  exact gx_sub (gX5_restingPair_4 gx_N v0 v1 (0 : Int32) (1 : Int32) h) (And.intro rfl (And.intro rfl (And.intro rfl (And.intro rfl True.intro))))
theorem okX5_restingPair {E : gx_Env} (d : Nat) {v0 : Nat} {v1 : Int32} {h : gx_H} {r : Int32} {h1 : gx_H} (q : fX5_restingPair v0 v1 h = some (r, h1)) : gx_M E yX5_restingPair cX5_restingPair 5 (some .int) (d + 3) 0 0 [.ref v0, .int v1] h ((fun x : Int32 => some (.int x)) r) h1 := gx_meth (y := yX5_restingPair) (cc := cX5_restingPair) (nL := 5) (em := (fun x : Int32 => some (.int x))) (ini := false) [.ref v0, .int v1] (by decide) (by simp [gx_sl]) (fun q => by cases q) (geX5_restingPair v0 v1 h) q
