theorem dX11_takesWord_0 : decode cX11_takesWord 0 = .ok (.aload_n 0, 1) := by decide +kernel
theorem dX11_takesWord_1 : decode cX11_takesWord 1 = .ok (.invokevirtual 124, 3) := by decide +kernel
theorem dX11_takesWord_4 : decode cX11_takesWord 4 = .ok (.aload_n 0, 1) := by decide +kernel
theorem dX11_takesWord_5 : decode cX11_takesWord 5 = .ok (.aload_n 0, 1) := by decide +kernel
theorem dX11_takesWord_6 : decode cX11_takesWord 6 = .ok (.getfield 115, 3) := by decide +kernel
theorem dX11_takesWord_9 : decode cX11_takesWord 9 = .ok (.invokevirtual 118, 3) := by decide +kernel
theorem dX11_takesWord_12 : decode cX11_takesWord 12 = .ok (.i2l, 1) := by decide +kernel
theorem dX11_takesWord_13 : decode cX11_takesWord 13 = .ok (.ldc2_w 127, 3) := by decide +kernel
theorem dX11_takesWord_16 : decode cX11_takesWord 16 = .ok (.ldc2_w 129, 3) := by decide +kernel
theorem dX11_takesWord_19 : decode cX11_takesWord 19 = .ok (.invokestatic 39, 3) := by decide +kernel
theorem dX11_takesWord_22 : decode cX11_takesWord 22 = .ok (.ifCond .eq 16, 3) := by decide +kernel
theorem dX11_takesWord_25 : decode cX11_takesWord 25 = .ok (.aload_n 0, 1) := by decide +kernel
theorem dX11_takesWord_26 : decode cX11_takesWord 26 = .ok (.dup, 1) := by decide +kernel
theorem dX11_takesWord_27 : decode cX11_takesWord 27 = .ok (.getfield 115, 3) := by decide +kernel
theorem dX11_takesWord_30 : decode cX11_takesWord 30 = .ok (.iconst 1, 1) := by decide +kernel
theorem dX11_takesWord_31 : decode cX11_takesWord 31 = .ok (.iadd, 1) := by decide +kernel
theorem dX11_takesWord_32 : decode cX11_takesWord 32 = .ok (.putfield 115, 3) := by decide +kernel
theorem dX11_takesWord_35 : decode cX11_takesWord 35 = .ok (.goto (-31), 3) := by decide +kernel
theorem dX11_takesWord_38 : decode cX11_takesWord 38 = .ok (.return_, 1) := by decide +kernel
def bX11_takesWord_4 (k4 : Nat → gx_H → Option (Unit × gx_H)) (v0 : Nat) (h : gx_H) : Option (Unit × gx_H) :=
  (gx_fI h v0 9 7).bind fun x3 =>
  gx_bd (fX11_byteAt v0 x3 h) fun x5 h4 =>
  gx_bd (fX11_in ((x5).toInt64) (97 : Int64) (122 : Int64) h4) fun x7 h6 =>
  if x7 = 0 then
    some ((), h6)
  else
    (gx_fI h6 v0 9 7).bind fun x8 =>
    (gx_pF h6 v0 9 7 (.int (x8 + (1 : Int32)))).bind fun h9 =>
    k4 v0 h9
def fX11_takesWord_4 : Nat → Nat → gx_H → Option (Unit × gx_H)
  | 0 => fun _ _ => none
  | n + 1 => bX11_takesWord_4 (fX11_takesWord_4 n)
def fX11_takesWord (v0 : Nat) (h : gx_H) : Option (Unit × gx_H) :=
  (gx_isO h v0 9).bind fun _ =>
  gx_bd (fX11_blanks v0 h) fun u2 h1 =>
  fX11_takesWord_4 gx_N v0 h1
set_option maxRecDepth 100000 in
set_option maxHeartbeats 4000000 in
theorem gbX11_takesWord_4 {E : gx_Env} {d : Nat}  (k4 : Nat → gx_H → Option (Unit × gx_H)) (hk4 : ∀ (v0 : Nat) (h : gx_H), gx_G E RX11 cX11_takesWord 1 none false (d + 2) 0 0 4 [some (.ref v0)] [] h (fun _ : Unit => none) (k4 v0 h))  : ∀ (v0 : Nat) (h : gx_H), gx_G E RX11 cX11_takesWord 1 none false (d + 2) 0 0 4 [some (.ref v0)] [] h (fun _ : Unit => none) (bX11_takesWord_4 k4 v0 h) := by
  intro v0 h
  unfold bX11_takesWord_4
  refine gx_aload_n 0 dX11_takesWord_4 rfl rfl ?_
  refine gx_aload_n 0 dX11_takesWord_5 rfl rfl ?_
  refine gx_getI kf_RX11_115 dX11_takesWord_6 (fun x3 => ?_)
  refine gx_callV (ci := 9) (bc := 0) (bs := 0) (mc := 0) (ms := 0) (em' := (fun x : Int32 => some (.int x))) [.int x3] kc_RX11_118 rfl dX11_takesWord_9 rfl rfl (gx_w8 rfl) (fun x q => (gx_isO_of (by unfold fX11_byteAt at q; exact q)).2) (fun _ _ q => okX11_byteAt (d + 1) q) (fun x5 h4 => ?_)
  refine gx_i2l dX11_takesWord_12 ?_
  refine gx_ldc2 kk_RX11_127 dX11_takesWord_13 ?_
  refine gx_ldc2 kk_RX11_129 dX11_takesWord_16 ?_
  refine gx_callS (bc := 0) (bs := 0) (mc := 0) (ms := 0) (em' := (fun x : Int32 => some (.int x))) [.long ((x5).toInt64), .long (97 : Int64), .long (122 : Int64)] kc_RX11_39 dX11_takesWord_19 rfl rfl (gx_w8 rfl) (fun _ _ q => okX11_in (d + 1) q) (fun x7 h6 => ?_)
  refine gx_if_eq 38 dX11_takesWord_22 (by decide) (fun _ => ?_) (fun _ => ?_)
  · exact gx_vret dX11_takesWord_38 rfl
  · refine gx_aload_n 0 dX11_takesWord_25 rfl rfl ?_
    refine gx_dup dX11_takesWord_26 rfl ?_
    refine gx_getI kf_RX11_115 dX11_takesWord_27 (fun x8 => ?_)
    refine gx_iconst (1 : Int32) dX11_takesWord_30 (by decide) ?_
    refine gx_iadd dX11_takesWord_31 ?_
    refine gx_putI kp_RX11_115 (fun q => by cases q) dX11_takesWord_32 (fun h9 => ?_)
    refine gx_goto 4 dX11_takesWord_35 (by decide) ?_
    exact gx_sub (hk4 v0 h9) (And.intro rfl True.intro)
set_option maxRecDepth 100000 in
set_option maxHeartbeats 4000000 in
theorem gX11_takesWord_4 {E : gx_Env} {d : Nat}  : ∀ (n : Nat) (v0 : Nat) (h : gx_H), gx_G E RX11 cX11_takesWord 1 none false (d + 2) 0 0 4 [some (.ref v0)] [] h (fun _ : Unit => none) (fX11_takesWord_4 n v0 h) := by
  intro n
  induction n with
  | zero => intro v0 h; exact gx_none
  | succ n ih => exact gbX11_takesWord_4  (fX11_takesWord_4  n) ih
set_option maxRecDepth 100000 in
set_option maxHeartbeats 4000000 in
theorem geX11_takesWord {E : gx_Env} {d : Nat} (v0 : Nat) (h : gx_H) : gx_G E RX11 cX11_takesWord 1 none false (d + 2) 0 0 0 [some (.ref v0)] [] h (fun _ : Unit => none) (fX11_takesWord v0 h) := by
  unfold fX11_takesWord
  refine gx_bind fun _ _ => ?_
  refine gx_aload_n 0 dX11_takesWord_0 rfl rfl ?_
  refine gx_callV (ci := 9) (bc := 0) (bs := 0) (mc := 0) (ms := 0) (em' := (fun _ : Unit => none)) [] kc_RX11_124 rfl dX11_takesWord_1 rfl rfl (gx_w8 rfl) (fun x q => (gx_isO_of (by unfold fX11_blanks at q; exact q)).2) (fun _ _ q => okX11_blanks d q) (fun u2 h1 => ?_)
  exact gx_sub (gX11_takesWord_4 gx_N v0 h1) (And.intro rfl True.intro)
theorem okX11_takesWord {E : gx_Env} (d : Nat) {v0 : Nat} {h : gx_H} {r : Unit} {h1 : gx_H} (q : fX11_takesWord v0 h = some (r, h1)) : gx_M E yX11_takesWord cX11_takesWord 1 none (d + 2) 0 0 [.ref v0] h ((fun _ : Unit => none) r) h1 := gx_meth (y := yX11_takesWord) (cc := cX11_takesWord) (nL := 1) (em := (fun _ : Unit => none)) (ini := false) [.ref v0] (by decide) (by simp [gx_sl]) (fun q => by cases q) (geX11_takesWord v0 h) q
theorem dX11_isLetter_0 : decode cX11_isLetter 0 = .ok (.iload_n 2, 1) := by decide +kernel
theorem dX11_isLetter_1 : decode cX11_isLetter 1 = .ok (.ifCond .ne 16, 3) := by decide +kernel
theorem dX11_isLetter_4 : decode cX11_isLetter 4 = .ok (.iload_n 3, 1) := by decide +kernel
theorem dX11_isLetter_5 : decode cX11_isLetter 5 = .ok (.iload_n 1, 1) := by decide +kernel
theorem dX11_isLetter_6 : decode cX11_isLetter 6 = .ok (.if_icmp .gt 7, 3) := by decide +kernel
theorem dX11_isLetter_9 : decode cX11_isLetter 9 = .ok (.iconst 1, 1) := by decide +kernel
theorem dX11_isLetter_10 : decode cX11_isLetter 10 = .ok (.goto 32, 3) := by decide +kernel
theorem dX11_isLetter_13 : decode cX11_isLetter 13 = .ok (.iconst 0, 1) := by decide +kernel
theorem dX11_isLetter_14 : decode cX11_isLetter 14 = .ok (.goto 28, 3) := by decide +kernel
theorem dX11_isLetter_17 : decode cX11_isLetter 17 = .ok (.iload_n 3, 1) := by decide +kernel
theorem dX11_isLetter_18 : decode cX11_isLetter 18 = .ok (.iload_n 1, 1) := by decide +kernel
theorem dX11_isLetter_19 : decode cX11_isLetter 19 = .ok (.if_icmp .le 22, 3) := by decide +kernel
theorem dX11_isLetter_22 : decode cX11_isLetter 22 = .ok (.aload_n 0, 1) := by decide +kernel
theorem dX11_isLetter_23 : decode cX11_isLetter 23 = .ok (.getfield 17, 3) := by decide +kernel
theorem dX11_isLetter_26 : decode cX11_isLetter 26 = .ok (.aload_n 0, 1) := by decide +kernel
theorem dX11_isLetter_27 : decode cX11_isLetter 27 = .ok (.getfield 121, 3) := by decide +kernel
theorem dX11_isLetter_30 : decode cX11_isLetter 30 = .ok (.iload_n 1, 1) := by decide +kernel
theorem dX11_isLetter_31 : decode cX11_isLetter 31 = .ok (.iadd, 1) := by decide +kernel
theorem dX11_isLetter_32 : decode cX11_isLetter 32 = .ok (.iaload, 1) := by decide +kernel
theorem dX11_isLetter_33 : decode cX11_isLetter 33 = .ok (.iload_n 2, 1) := by decide +kernel
theorem dX11_isLetter_34 : decode cX11_isLetter 34 = .ok (.if_icmp .ne 7, 3) := by decide +kernel
theorem dX11_isLetter_37 : decode cX11_isLetter 37 = .ok (.iconst 1, 1) := by decide +kernel
theorem dX11_isLetter_38 : decode cX11_isLetter 38 = .ok (.goto 4, 3) := by decide +kernel
theorem dX11_isLetter_41 : decode cX11_isLetter 41 = .ok (.iconst 0, 1) := by decide +kernel
theorem dX11_isLetter_42 : decode cX11_isLetter 42 = .ok (.ireturn, 1) := by decide +kernel
def fX11_isLetter_42 (s0 : Int32) (h : gx_H) : Option (Int32 × gx_H) :=
  gx_ret .boolean s0 h
def fX11_isLetter_41 (h : gx_H) : Option (Int32 × gx_H) :=
  fX11_isLetter_42 (0 : Int32) h
def fX11_isLetter (v0 : Nat) (v1 : Int32) (v2 : Int32) (v3 : Int32) (h : gx_H) : Option (Int32 × gx_H) :=
  (gx_isO h v0 9).bind fun _ =>
  if v2 = 0 then
    if v1 < v3 then
      fX11_isLetter_42 (0 : Int32) h
    else
      fX11_isLetter_42 (1 : Int32) h
  else
    if v3 ≤ v1 then
      fX11_isLetter_41 h
    else
      (gx_fR h v0 9 2).bind fun a1 =>
      (gx_fI h v0 9 8).bind fun x2 =>
      (gx_aI 0 h a1 (x2 + v1)).bind fun x3 =>
      if x3 = v2 then
        fX11_isLetter_42 (1 : Int32) h
      else
        fX11_isLetter_41 h
set_option maxRecDepth 100000 in
set_option maxHeartbeats 4000000 in
theorem gX11_isLetter_42 {E : gx_Env} {d : Nat}  : ∀ (s0 : Int32) (h : gx_H), gx_G E RX11 cX11_isLetter 4 (some .boolean) false d 0 0 42 [none, none, none, none] [.int s0] h (fun x : Int32 => some (.int x)) (fX11_isLetter_42 s0 h) := by
  intro s0 h
  unfold fX11_isLetter_42
  exact gx_zret dX11_isLetter_42 rfl
set_option maxRecDepth 100000 in
set_option maxHeartbeats 4000000 in
theorem gX11_isLetter_41 {E : gx_Env} {d : Nat}  : ∀  (h : gx_H), gx_G E RX11 cX11_isLetter 4 (some .boolean) false d 0 0 41 [none, none, none, none] [] h (fun x : Int32 => some (.int x)) (fX11_isLetter_41 h) := by
  intro  h
  unfold fX11_isLetter_41
  refine gx_iconst (0 : Int32) dX11_isLetter_41 (by decide) ?_
  exact gx_sub (gX11_isLetter_42 (0 : Int32) h) True.intro
set_option maxRecDepth 100000 in
set_option maxHeartbeats 4000000 in
theorem geX11_isLetter {E : gx_Env} {d : Nat} (v0 : Nat) (v1 : Int32) (v2 : Int32) (v3 : Int32) (h : gx_H) : gx_G E RX11 cX11_isLetter 4 (some .boolean) false d 0 0 0 [some (.ref v0), some (.int v1), some (.int v2), some (.int v3)] [] h (fun x : Int32 => some (.int x)) (fX11_isLetter v0 v1 v2 v3 h) := by
  unfold fX11_isLetter
  refine gx_bind fun _ _ => ?_
  refine gx_iload_n 2 dX11_isLetter_0 rfl rfl ?_
  refine gx_if_ne 17 dX11_isLetter_1 (by decide) (fun _ => ?_) (fun _ => ?_)
  · refine gx_iload_n 3 dX11_isLetter_17 rfl rfl ?_
    refine gx_iload_n 1 dX11_isLetter_18 rfl rfl ?_
    refine gx_icmp_le 41 dX11_isLetter_19 (by decide) (fun _ => ?_) (fun _ => ?_)
    · exact gx_sub (gX11_isLetter_41 h) True.intro
    · refine gx_aload_n 0 dX11_isLetter_22 rfl rfl ?_
      refine gx_getR kf_RX11_17 dX11_isLetter_23 (fun a1 => ?_)
      refine gx_aload_n 0 dX11_isLetter_26 rfl rfl ?_
      refine gx_getI kf_RX11_121 dX11_isLetter_27 (fun x2 => ?_)
      refine gx_iload_n 1 dX11_isLetter_30 rfl rfl ?_
      refine gx_iadd dX11_isLetter_31 ?_
      refine gx_iald dX11_isLetter_32 (fun x3 => ?_)
      refine gx_iload_n 2 dX11_isLetter_33 rfl rfl ?_
      refine gx_icmp_ne 41 dX11_isLetter_34 (by decide) (fun _ => ?_) (fun _ => ?_)
      · exact gx_sub (gX11_isLetter_41 h) True.intro
      · refine gx_iconst (1 : Int32) dX11_isLetter_37 (by decide) ?_
        refine gx_goto 42 dX11_isLetter_38 (by decide) ?_
        exact gx_sub (gX11_isLetter_42 (1 : Int32) h) True.intro
  · refine gx_iload_n 3 dX11_isLetter_4 rfl rfl ?_
    refine gx_iload_n 1 dX11_isLetter_5 rfl rfl ?_
    refine gx_icmp_gt 13 dX11_isLetter_6 (by decide) (fun _ => ?_) (fun _ => ?_)
    · refine gx_iconst (0 : Int32) dX11_isLetter_13 (by decide) ?_
      refine gx_goto 42 dX11_isLetter_14 (by decide) ?_
      exact gx_sub (gX11_isLetter_42 (0 : Int32) h) True.intro
    · refine gx_iconst (1 : Int32) dX11_isLetter_9 (by decide) ?_
      refine gx_goto 42 dX11_isLetter_10 (by decide) ?_
      exact gx_sub (gX11_isLetter_42 (1 : Int32) h) True.intro
theorem okX11_isLetter {E : gx_Env} (d : Nat) {v0 : Nat} {v1 : Int32} {v2 : Int32} {v3 : Int32} {h : gx_H} {r : Int32} {h1 : gx_H} (q : fX11_isLetter v0 v1 v2 v3 h = some (r, h1)) : gx_M E yX11_isLetter cX11_isLetter 4 (some .boolean) d 0 0 [.ref v0, .int v1, .int v2, .int v3] h ((fun x : Int32 => some (.int x)) r) h1 := gx_meth (y := yX11_isLetter) (cc := cX11_isLetter) (nL := 4) (em := (fun x : Int32 => some (.int x))) (ini := false) [.ref v0, .int v1, .int v2, .int v3] (by decide) (by simp [gx_sl]) (fun q => by cases q) (geX11_isLetter v0 v1 v2 v3 h) q
theorem dX11_isWord_0 : decode cX11_isWord 0 = .ok (.aload_n 0, 1) := by decide +kernel
theorem dX11_isWord_1 : decode cX11_isWord 1 = .ok (.getfield 115, 3) := by decide +kernel
theorem dX11_isWord_4 : decode cX11_isWord 4 = .ok (.aload_n 0, 1) := by decide +kernel
theorem dX11_isWord_5 : decode cX11_isWord 5 = .ok (.getfield 121, 3) := by decide +kernel
theorem dX11_isWord_8 : decode cX11_isWord 8 = .ok (.isub, 1) := by decide +kernel
theorem dX11_isWord_9 : decode cX11_isWord 9 = .ok (.istore 7, 2) := by decide +kernel
theorem dX11_isWord_11 : decode cX11_isWord 11 = .ok (.aload_n 0, 1) := by decide +kernel
theorem dX11_isWord_12 : decode cX11_isWord 12 = .ok (.iconst 0, 1) := by decide +kernel
theorem dX11_isWord_13 : decode cX11_isWord 13 = .ok (.iload_n 1, 1) := by decide +kernel
theorem dX11_isWord_14 : decode cX11_isWord 14 = .ok (.iload 7, 2) := by decide +kernel
theorem dX11_isWord_16 : decode cX11_isWord 16 = .ok (.invokevirtual 131, 3) := by decide +kernel
theorem dX11_isWord_19 : decode cX11_isWord 19 = .ok (.ifCond .eq 72, 3) := by decide +kernel
theorem dX11_isWord_22 : decode cX11_isWord 22 = .ok (.aload_n 0, 1) := by decide +kernel
theorem dX11_isWord_23 : decode cX11_isWord 23 = .ok (.iconst 1, 1) := by decide +kernel
theorem dX11_isWord_24 : decode cX11_isWord 24 = .ok (.iload_n 2, 1) := by decide +kernel
theorem dX11_isWord_25 : decode cX11_isWord 25 = .ok (.iload 7, 2) := by decide +kernel
theorem dX11_isWord_27 : decode cX11_isWord 27 = .ok (.invokevirtual 131, 3) := by decide +kernel
theorem dX11_isWord_30 : decode cX11_isWord 30 = .ok (.ifCond .eq 61, 3) := by decide +kernel
theorem dX11_isWord_33 : decode cX11_isWord 33 = .ok (.aload_n 0, 1) := by decide +kernel
theorem dX11_isWord_34 : decode cX11_isWord 34 = .ok (.iconst 2, 1) := by decide +kernel
theorem dX11_isWord_35 : decode cX11_isWord 35 = .ok (.iload_n 3, 1) := by decide +kernel
theorem dX11_isWord_36 : decode cX11_isWord 36 = .ok (.iload 7, 2) := by decide +kernel
theorem dX11_isWord_38 : decode cX11_isWord 38 = .ok (.invokevirtual 131, 3) := by decide +kernel
theorem dX11_isWord_41 : decode cX11_isWord 41 = .ok (.ifCond .eq 50, 3) := by decide +kernel
theorem dX11_isWord_44 : decode cX11_isWord 44 = .ok (.aload_n 0, 1) := by decide +kernel
theorem dX11_isWord_45 : decode cX11_isWord 45 = .ok (.iconst 3, 1) := by decide +kernel
theorem dX11_isWord_46 : decode cX11_isWord 46 = .ok (.iload 4, 2) := by decide +kernel
theorem dX11_isWord_48 : decode cX11_isWord 48 = .ok (.iload 7, 2) := by decide +kernel
theorem dX11_isWord_50 : decode cX11_isWord 50 = .ok (.invokevirtual 131, 3) := by decide +kernel
theorem dX11_isWord_53 : decode cX11_isWord 53 = .ok (.ifCond .eq 38, 3) := by decide +kernel
theorem dX11_isWord_56 : decode cX11_isWord 56 = .ok (.aload_n 0, 1) := by decide +kernel
theorem dX11_isWord_57 : decode cX11_isWord 57 = .ok (.iconst 4, 1) := by decide +kernel
theorem dX11_isWord_58 : decode cX11_isWord 58 = .ok (.iload 5, 2) := by decide +kernel
theorem dX11_isWord_60 : decode cX11_isWord 60 = .ok (.iload 7, 2) := by decide +kernel
theorem dX11_isWord_62 : decode cX11_isWord 62 = .ok (.invokevirtual 131, 3) := by decide +kernel
theorem dX11_isWord_65 : decode cX11_isWord 65 = .ok (.ifCond .eq 26, 3) := by decide +kernel
theorem dX11_isWord_68 : decode cX11_isWord 68 = .ok (.aload_n 0, 1) := by decide +kernel
theorem dX11_isWord_69 : decode cX11_isWord 69 = .ok (.iconst 5, 1) := by decide +kernel
theorem dX11_isWord_70 : decode cX11_isWord 70 = .ok (.iload 6, 2) := by decide +kernel
theorem dX11_isWord_72 : decode cX11_isWord 72 = .ok (.iload 7, 2) := by decide +kernel
theorem dX11_isWord_74 : decode cX11_isWord 74 = .ok (.invokevirtual 131, 3) := by decide +kernel
theorem dX11_isWord_77 : decode cX11_isWord 77 = .ok (.ifCond .eq 14, 3) := by decide +kernel
theorem dX11_isWord_80 : decode cX11_isWord 80 = .ok (.iload 7, 2) := by decide +kernel
theorem dX11_isWord_82 : decode cX11_isWord 82 = .ok (.bipush 7, 2) := by decide +kernel
theorem dX11_isWord_84 : decode cX11_isWord 84 = .ok (.if_icmp .ge 7, 3) := by decide +kernel
theorem dX11_isWord_87 : decode cX11_isWord 87 = .ok (.iconst 1, 1) := by decide +kernel
theorem dX11_isWord_88 : decode cX11_isWord 88 = .ok (.goto 4, 3) := by decide +kernel
theorem dX11_isWord_91 : decode cX11_isWord 91 = .ok (.iconst 0, 1) := by decide +kernel
theorem dX11_isWord_92 : decode cX11_isWord 92 = .ok (.ireturn, 1) := by decide +kernel
def fX11_isWord_92 (s0 : Int32) (h : gx_H) : Option (Int32 × gx_H) :=
  gx_ret .boolean s0 h
def fX11_isWord_91 (h : gx_H) : Option (Int32 × gx_H) :=
  fX11_isWord_92 (0 : Int32) h
def fX11_isWord (v0 : Nat) (v1 : Int32) (v2 : Int32) (v3 : Int32) (v4 : Int32) (v5 : Int32) (v6 : Int32) (h : gx_H) : Option (Int32 × gx_H) :=
  (gx_isO h v0 9).bind fun _ =>
  (gx_fI h v0 9 7).bind fun x1 =>
  (gx_fI h v0 9 8).bind fun x2 =>
  gx_bd (fX11_isLetter v0 (0 : Int32) v1 (x1 - x2) h) fun x4 h3 =>
  if x4 = 0 then
    fX11_isWord_91 h3
  else
    gx_bd (fX11_isLetter v0 (1 : Int32) v2 (x1 - x2) h3) fun x6 h5 =>
    if x6 = 0 then
      fX11_isWord_91 h5
    else
      gx_bd (fX11_isLetter v0 (2 : Int32) v3 (x1 - x2) h5) fun x8 h7 =>
      if x8 = 0 then
        fX11_isWord_91 h7
      else
        gx_bd (fX11_isLetter v0 (3 : Int32) v4 (x1 - x2) h7) fun x10 h9 =>
        if x10 = 0 then
          fX11_isWord_91 h9
        else
          gx_bd (fX11_isLetter v0 (4 : Int32) v5 (x1 - x2) h9) fun x12 h11 =>
          if x12 = 0 then
            fX11_isWord_91 h11
          else
            gx_bd (fX11_isLetter v0 (5 : Int32) v6 (x1 - x2) h11) fun x14 h13 =>
            if x14 = 0 then
              fX11_isWord_91 h13
            else
              if (7 : Int32) ≤ (x1 - x2) then
                fX11_isWord_91 h13
              else
                fX11_isWord_92 (1 : Int32) h13
set_option maxRecDepth 100000 in
set_option maxHeartbeats 4000000 in
theorem gX11_isWord_92 {E : gx_Env} {d : Nat}  : ∀ (s0 : Int32) (h : gx_H), gx_G E RX11 cX11_isWord 8 (some .boolean) false (d + 1) 0 0 92 [none, none, none, none, none, none, none, none] [.int s0] h (fun x : Int32 => some (.int x)) (fX11_isWord_92 s0 h) := by
  intro s0 h
  unfold fX11_isWord_92
  exact gx_zret dX11_isWord_92 rfl
set_option maxRecDepth 100000 in
set_option maxHeartbeats 4000000 in
theorem gX11_isWord_91 {E : gx_Env} {d : Nat}  : ∀  (h : gx_H), gx_G E RX11 cX11_isWord 8 (some .boolean) false (d + 1) 0 0 91 [none, none, none, none, none, none, none, none] [] h (fun x : Int32 => some (.int x)) (fX11_isWord_91 h) := by
  intro  h
  unfold fX11_isWord_91
  refine gx_iconst (0 : Int32) dX11_isWord_91 (by decide) ?_
  exact gx_sub (gX11_isWord_92 (0 : Int32) h) True.intro
set_option maxRecDepth 100000 in
set_option maxHeartbeats 4000000 in
theorem geX11_isWord {E : gx_Env} {d : Nat} (v0 : Nat) (v1 : Int32) (v2 : Int32) (v3 : Int32) (v4 : Int32) (v5 : Int32) (v6 : Int32) (h : gx_H) : gx_G E RX11 cX11_isWord 8 (some .boolean) false (d + 1) 0 0 0 [some (.ref v0), some (.int v1), some (.int v2), some (.int v3), some (.int v4), some (.int v5), some (.int v6), none] [] h (fun x : Int32 => some (.int x)) (fX11_isWord v0 v1 v2 v3 v4 v5 v6 h) := by
  unfold fX11_isWord
  refine gx_bind fun _ _ => ?_
  refine gx_aload_n 0 dX11_isWord_0 rfl rfl ?_
  refine gx_getI kf_RX11_115 dX11_isWord_1 (fun x1 => ?_)
  refine gx_aload_n 0 dX11_isWord_4 rfl rfl ?_
  refine gx_getI kf_RX11_121 dX11_isWord_5 (fun x2 => ?_)
  refine gx_isub dX11_isWord_8 ?_
  refine gx_istore [some (.ref v0), some (.int v1), some (.int v2), some (.int v3), some (.int v4), some (.int v5), some (.int v6), some (.int (x1 - x2))] dX11_isWord_9 (by decide) rfl ?_
  refine gx_aload_n 0 dX11_isWord_11 rfl rfl ?_
  refine gx_iconst (0 : Int32) dX11_isWord_12 (by decide) ?_
  refine gx_iload_n 1 dX11_isWord_13 rfl rfl ?_
  refine gx_iload dX11_isWord_14 rfl ?_
  refine gx_callV (ci := 9) (bc := 0) (bs := 0) (mc := 0) (ms := 0) (em' := (fun x : Int32 => some (.int x))) [.int (0 : Int32), .int v1, .int (x1 - x2)] kc_RX11_131 rfl dX11_isWord_16 rfl rfl (gx_w8 rfl) (fun x q => (gx_isO_of (by unfold fX11_isLetter at q; exact q)).2) (fun _ _ q => okX11_isLetter d q) (fun x4 h3 => ?_)
  refine gx_if_eq 91 dX11_isWord_19 (by decide) (fun _ => ?_) (fun _ => ?_)
  · exact gx_sub (gX11_isWord_91 h3) True.intro
  · refine gx_aload_n 0 dX11_isWord_22 rfl rfl ?_
    refine gx_iconst (1 : Int32) dX11_isWord_23 (by decide) ?_
    refine gx_iload_n 2 dX11_isWord_24 rfl rfl ?_
    refine gx_iload dX11_isWord_25 rfl ?_
    refine gx_callV (ci := 9) (bc := 0) (bs := 0) (mc := 0) (ms := 0) (em' := (fun x : Int32 => some (.int x))) [.int (1 : Int32), .int v2, .int (x1 - x2)] kc_RX11_131 rfl dX11_isWord_27 rfl rfl (gx_w8 rfl) (fun x q => (gx_isO_of (by unfold fX11_isLetter at q; exact q)).2) (fun _ _ q => okX11_isLetter d q) (fun x6 h5 => ?_)
    refine gx_if_eq 91 dX11_isWord_30 (by decide) (fun _ => ?_) (fun _ => ?_)
    · exact gx_sub (gX11_isWord_91 h5) True.intro
    · refine gx_aload_n 0 dX11_isWord_33 rfl rfl ?_
      refine gx_iconst (2 : Int32) dX11_isWord_34 (by decide) ?_
      refine gx_iload_n 3 dX11_isWord_35 rfl rfl ?_
      refine gx_iload dX11_isWord_36 rfl ?_
      refine gx_callV (ci := 9) (bc := 0) (bs := 0) (mc := 0) (ms := 0) (em' := (fun x : Int32 => some (.int x))) [.int (2 : Int32), .int v3, .int (x1 - x2)] kc_RX11_131 rfl dX11_isWord_38 rfl rfl (gx_w8 rfl) (fun x q => (gx_isO_of (by unfold fX11_isLetter at q; exact q)).2) (fun _ _ q => okX11_isLetter d q) (fun x8 h7 => ?_)
      refine gx_if_eq 91 dX11_isWord_41 (by decide) (fun _ => ?_) (fun _ => ?_)
      · exact gx_sub (gX11_isWord_91 h7) True.intro
      · refine gx_aload_n 0 dX11_isWord_44 rfl rfl ?_
        refine gx_iconst (3 : Int32) dX11_isWord_45 (by decide) ?_
        refine gx_iload dX11_isWord_46 rfl ?_
        refine gx_iload dX11_isWord_48 rfl ?_
        refine gx_callV (ci := 9) (bc := 0) (bs := 0) (mc := 0) (ms := 0) (em' := (fun x : Int32 => some (.int x))) [.int (3 : Int32), .int v4, .int (x1 - x2)] kc_RX11_131 rfl dX11_isWord_50 rfl rfl (gx_w8 rfl) (fun x q => (gx_isO_of (by unfold fX11_isLetter at q; exact q)).2) (fun _ _ q => okX11_isLetter d q) (fun x10 h9 => ?_)
        refine gx_if_eq 91 dX11_isWord_53 (by decide) (fun _ => ?_) (fun _ => ?_)
        · exact gx_sub (gX11_isWord_91 h9) True.intro
        · refine gx_aload_n 0 dX11_isWord_56 rfl rfl ?_
          refine gx_iconst (4 : Int32) dX11_isWord_57 (by decide) ?_
          refine gx_iload dX11_isWord_58 rfl ?_
          refine gx_iload dX11_isWord_60 rfl ?_
          refine gx_callV (ci := 9) (bc := 0) (bs := 0) (mc := 0) (ms := 0) (em' := (fun x : Int32 => some (.int x))) [.int (4 : Int32), .int v5, .int (x1 - x2)] kc_RX11_131 rfl dX11_isWord_62 rfl rfl (gx_w8 rfl) (fun x q => (gx_isO_of (by unfold fX11_isLetter at q; exact q)).2) (fun _ _ q => okX11_isLetter d q) (fun x12 h11 => ?_)
          refine gx_if_eq 91 dX11_isWord_65 (by decide) (fun _ => ?_) (fun _ => ?_)
          · exact gx_sub (gX11_isWord_91 h11) True.intro
          · refine gx_aload_n 0 dX11_isWord_68 rfl rfl ?_
            refine gx_iconst (5 : Int32) dX11_isWord_69 (by decide) ?_
            refine gx_iload dX11_isWord_70 rfl ?_
            refine gx_iload dX11_isWord_72 rfl ?_
            refine gx_callV (ci := 9) (bc := 0) (bs := 0) (mc := 0) (ms := 0) (em' := (fun x : Int32 => some (.int x))) [.int (5 : Int32), .int v6, .int (x1 - x2)] kc_RX11_131 rfl dX11_isWord_74 rfl rfl (gx_w8 rfl) (fun x q => (gx_isO_of (by unfold fX11_isLetter at q; exact q)).2) (fun _ _ q => okX11_isLetter d q) (fun x14 h13 => ?_)
            refine gx_if_eq 91 dX11_isWord_77 (by decide) (fun _ => ?_) (fun _ => ?_)
            · exact gx_sub (gX11_isWord_91 h13) True.intro
            · refine gx_iload dX11_isWord_80 rfl ?_
              refine gx_bipush (7 : Int32) dX11_isWord_82 (by decide) ?_
              refine gx_icmp_ge 91 dX11_isWord_84 (by decide) (fun _ => ?_) (fun _ => ?_)
              · exact gx_sub (gX11_isWord_91 h13) True.intro
              · refine gx_iconst (1 : Int32) dX11_isWord_87 (by decide) ?_
                refine gx_goto 92 dX11_isWord_88 (by decide) ?_
                exact gx_sub (gX11_isWord_92 (1 : Int32) h13) True.intro
theorem okX11_isWord {E : gx_Env} (d : Nat) {v0 : Nat} {v1 : Int32} {v2 : Int32} {v3 : Int32} {v4 : Int32} {v5 : Int32} {v6 : Int32} {h : gx_H} {r : Int32} {h1 : gx_H} (q : fX11_isWord v0 v1 v2 v3 v4 v5 v6 h = some (r, h1)) : gx_M E yX11_isWord cX11_isWord 8 (some .boolean) (d + 1) 0 0 [.ref v0, .int v1, .int v2, .int v3, .int v4, .int v5, .int v6] h ((fun x : Int32 => some (.int x)) r) h1 := gx_meth (y := yX11_isWord) (cc := cX11_isWord) (nL := 8) (em := (fun x : Int32 => some (.int x))) (ini := false) [.ref v0, .int v1, .int v2, .int v3, .int v4, .int v5, .int v6] (by decide) (by simp [gx_sl]) (fun q => by cases q) (geX11_isWord v0 v1 v2 v3 v4 v5 v6 h) q
theorem dX11_wordOf_0 : decode cX11_wordOf 0 = .ok (.aload_n 0, 1) := by decide +kernel
theorem dX11_wordOf_1 : decode cX11_wordOf 1 = .ok (.bipush 98, 2) := by decide +kernel
theorem dX11_wordOf_3 : decode cX11_wordOf 3 = .ok (.bipush 111, 2) := by decide +kernel
theorem dX11_wordOf_5 : decode cX11_wordOf 5 = .ok (.bipush 97, 2) := by decide +kernel
theorem dX11_wordOf_7 : decode cX11_wordOf 7 = .ok (.bipush 114, 2) := by decide +kernel
theorem dX11_wordOf_9 : decode cX11_wordOf 9 = .ok (.bipush 100, 2) := by decide +kernel
theorem dX11_wordOf_11 : decode cX11_wordOf 11 = .ok (.iconst 0, 1) := by decide +kernel
theorem dX11_wordOf_12 : decode cX11_wordOf 12 = .ok (.invokevirtual 135, 3) := by decide +kernel
theorem dX11_wordOf_15 : decode cX11_wordOf 15 = .ok (.ifCond .eq 7, 3) := by decide +kernel
theorem dX11_wordOf_18 : decode cX11_wordOf 18 = .ok (.iconst 1, 1) := by decide +kernel
theorem dX11_wordOf_19 : decode cX11_wordOf 19 = .ok (.goto 90, 3) := by decide +kernel
theorem dX11_wordOf_22 : decode cX11_wordOf 22 = .ok (.aload_n 0, 1) := by decide +kernel
theorem dX11_wordOf_23 : decode cX11_wordOf 23 = .ok (.bipush 108, 2) := by decide +kernel
theorem dX11_wordOf_25 : decode cX11_wordOf 25 = .ok (.bipush 105, 2) := by decide +kernel
theorem dX11_wordOf_27 : decode cX11_wordOf 27 = .ok (.bipush 110, 2) := by decide +kernel
theorem dX11_wordOf_29 : decode cX11_wordOf 29 = .ok (.bipush 107, 2) := by decide +kernel
theorem dX11_wordOf_31 : decode cX11_wordOf 31 = .ok (.iconst 0, 1) := by decide +kernel
theorem dX11_wordOf_32 : decode cX11_wordOf 32 = .ok (.iconst 0, 1) := by decide +kernel
theorem dX11_wordOf_33 : decode cX11_wordOf 33 = .ok (.invokevirtual 135, 3) := by decide +kernel
theorem dX11_wordOf_36 : decode cX11_wordOf 36 = .ok (.ifCond .eq 7, 3) := by decide +kernel
theorem dX11_wordOf_39 : decode cX11_wordOf 39 = .ok (.iconst 2, 1) := by decide +kernel
theorem dX11_wordOf_40 : decode cX11_wordOf 40 = .ok (.goto 69, 3) := by decide +kernel
theorem dX11_wordOf_43 : decode cX11_wordOf 43 = .ok (.aload_n 0, 1) := by decide +kernel
theorem dX11_wordOf_44 : decode cX11_wordOf 44 = .ok (.bipush 112, 2) := by decide +kernel
theorem dX11_wordOf_46 : decode cX11_wordOf 46 = .ok (.bipush 108, 2) := by decide +kernel
theorem dX11_wordOf_48 : decode cX11_wordOf 48 = .ok (.bipush 97, 2) := by decide +kernel
theorem dX11_wordOf_50 : decode cX11_wordOf 50 = .ok (.bipush 121, 2) := by decide +kernel
theorem dX11_wordOf_52 : decode cX11_wordOf 52 = .ok (.bipush 101, 2) := by decide +kernel
theorem dX11_wordOf_54 : decode cX11_wordOf 54 = .ok (.bipush 114, 2) := by decide +kernel
theorem dX11_wordOf_56 : decode cX11_wordOf 56 = .ok (.invokevirtual 135, 3) := by decide +kernel
theorem dX11_wordOf_59 : decode cX11_wordOf 59 = .ok (.ifCond .eq 7, 3) := by decide +kernel
theorem dX11_wordOf_62 : decode cX11_wordOf 62 = .ok (.iconst 3, 1) := by decide +kernel
theorem dX11_wordOf_63 : decode cX11_wordOf 63 = .ok (.goto 46, 3) := by decide +kernel
theorem dX11_wordOf_66 : decode cX11_wordOf 66 = .ok (.aload_n 0, 1) := by decide +kernel
theorem dX11_wordOf_67 : decode cX11_wordOf 67 = .ok (.bipush 115, 2) := by decide +kernel
theorem dX11_wordOf_69 : decode cX11_wordOf 69 = .ok (.bipush 101, 2) := by decide +kernel
theorem dX11_wordOf_71 : decode cX11_wordOf 71 = .ok (.bipush 116, 2) := by decide +kernel
theorem dX11_wordOf_73 : decode cX11_wordOf 73 = .ok (.iconst 0, 1) := by decide +kernel
theorem dX11_wordOf_74 : decode cX11_wordOf 74 = .ok (.iconst 0, 1) := by decide +kernel
theorem dX11_wordOf_75 : decode cX11_wordOf 75 = .ok (.iconst 0, 1) := by decide +kernel
theorem dX11_wordOf_76 : decode cX11_wordOf 76 = .ok (.invokevirtual 135, 3) := by decide +kernel
theorem dX11_wordOf_79 : decode cX11_wordOf 79 = .ok (.ifCond .eq 7, 3) := by decide +kernel
theorem dX11_wordOf_82 : decode cX11_wordOf 82 = .ok (.iconst 4, 1) := by decide +kernel
theorem dX11_wordOf_83 : decode cX11_wordOf 83 = .ok (.goto 26, 3) := by decide +kernel
theorem dX11_wordOf_86 : decode cX11_wordOf 86 = .ok (.aload_n 0, 1) := by decide +kernel
theorem dX11_wordOf_87 : decode cX11_wordOf 87 = .ok (.bipush 116, 2) := by decide +kernel
theorem dX11_wordOf_89 : decode cX11_wordOf 89 = .ok (.bipush 104, 2) := by decide +kernel
theorem dX11_wordOf_91 : decode cX11_wordOf 91 = .ok (.bipush 114, 2) := by decide +kernel
theorem dX11_wordOf_93 : decode cX11_wordOf 93 = .ok (.bipush 111, 2) := by decide +kernel
theorem dX11_wordOf_95 : decode cX11_wordOf 95 = .ok (.bipush 119, 2) := by decide +kernel
theorem dX11_wordOf_97 : decode cX11_wordOf 97 = .ok (.iconst 0, 1) := by decide +kernel
theorem dX11_wordOf_98 : decode cX11_wordOf 98 = .ok (.invokevirtual 135, 3) := by decide +kernel
theorem dX11_wordOf_101 : decode cX11_wordOf 101 = .ok (.ifCond .eq 7, 3) := by decide +kernel
theorem dX11_wordOf_104 : decode cX11_wordOf 104 = .ok (.iconst 5, 1) := by decide +kernel
theorem dX11_wordOf_105 : decode cX11_wordOf 105 = .ok (.goto 4, 3) := by decide +kernel
theorem dX11_wordOf_108 : decode cX11_wordOf 108 = .ok (.iconst 0, 1) := by decide +kernel
theorem dX11_wordOf_109 : decode cX11_wordOf 109 = .ok (.ireturn, 1) := by decide +kernel
def fX11_wordOf_109 (s0 : Int32) (h : gx_H) : Option (Int32 × gx_H) :=
  some (s0, h)
def fX11_wordOf (v0 : Nat) (h : gx_H) : Option (Int32 × gx_H) :=
  (gx_isO h v0 9).bind fun _ =>
  gx_bd (fX11_isWord v0 (98 : Int32) (111 : Int32) (97 : Int32) (114 : Int32) (100 : Int32) (0 : Int32) h) fun x2 h1 =>
  if x2 = 0 then
    gx_bd (fX11_isWord v0 (108 : Int32) (105 : Int32) (110 : Int32) (107 : Int32) (0 : Int32) (0 : Int32) h1) fun x4 h3 =>
    if x4 = 0 then
      gx_bd (fX11_isWord v0 (112 : Int32) (108 : Int32) (97 : Int32) (121 : Int32) (101 : Int32) (114 : Int32) h3) fun x6 h5 =>
      if x6 = 0 then
        gx_bd (fX11_isWord v0 (115 : Int32) (101 : Int32) (116 : Int32) (0 : Int32) (0 : Int32) (0 : Int32) h5) fun x8 h7 =>
        if x8 = 0 then
          gx_bd (fX11_isWord v0 (116 : Int32) (104 : Int32) (114 : Int32) (111 : Int32) (119 : Int32) (0 : Int32) h7) fun x10 h9 =>
          if x10 = 0 then
            fX11_wordOf_109 (0 : Int32) h9
          else
            fX11_wordOf_109 (5 : Int32) h9
        else
          fX11_wordOf_109 (4 : Int32) h7
      else
        fX11_wordOf_109 (3 : Int32) h5
    else
      fX11_wordOf_109 (2 : Int32) h3
  else
    fX11_wordOf_109 (1 : Int32) h1
set_option maxRecDepth 100000 in
set_option maxHeartbeats 4000000 in
theorem gX11_wordOf_109 {E : gx_Env} {d : Nat}  : ∀ (s0 : Int32) (h : gx_H), gx_G E RX11 cX11_wordOf 1 (some .int) false (d + 2) 0 0 109 [none] [.int s0] h (fun x : Int32 => some (.int x)) (fX11_wordOf_109 s0 h) := by
  intro s0 h
  unfold fX11_wordOf_109
  exact gx_iret dX11_wordOf_109 rfl
set_option maxRecDepth 100000 in
set_option maxHeartbeats 4000000 in
theorem geX11_wordOf {E : gx_Env} {d : Nat} (v0 : Nat) (h : gx_H) : gx_G E RX11 cX11_wordOf 1 (some .int) false (d + 2) 0 0 0 [some (.ref v0)] [] h (fun x : Int32 => some (.int x)) (fX11_wordOf v0 h) := by
  unfold fX11_wordOf
  refine gx_bind fun _ _ => ?_
  refine gx_aload_n 0 dX11_wordOf_0 rfl rfl ?_
  refine gx_bipush (98 : Int32) dX11_wordOf_1 (by decide) ?_
  refine gx_bipush (111 : Int32) dX11_wordOf_3 (by decide) ?_
  refine gx_bipush (97 : Int32) dX11_wordOf_5 (by decide) ?_
  refine gx_bipush (114 : Int32) dX11_wordOf_7 (by decide) ?_
  refine gx_bipush (100 : Int32) dX11_wordOf_9 (by decide) ?_
  refine gx_iconst (0 : Int32) dX11_wordOf_11 (by decide) ?_
  refine gx_callV (ci := 9) (bc := 0) (bs := 0) (mc := 0) (ms := 0) (em' := (fun x : Int32 => some (.int x))) [.int (98 : Int32), .int (111 : Int32), .int (97 : Int32), .int (114 : Int32), .int (100 : Int32), .int (0 : Int32)] kc_RX11_135 rfl dX11_wordOf_12 rfl rfl (gx_w8 rfl) (fun x q => (gx_isO_of (by unfold fX11_isWord at q; exact q)).2) (fun _ _ q => okX11_isWord d q) (fun x2 h1 => ?_)
  refine gx_if_eq 22 dX11_wordOf_15 (by decide) (fun _ => ?_) (fun _ => ?_)
  · refine gx_aload_n 0 dX11_wordOf_22 rfl rfl ?_
    refine gx_bipush (108 : Int32) dX11_wordOf_23 (by decide) ?_
    refine gx_bipush (105 : Int32) dX11_wordOf_25 (by decide) ?_
    refine gx_bipush (110 : Int32) dX11_wordOf_27 (by decide) ?_
    refine gx_bipush (107 : Int32) dX11_wordOf_29 (by decide) ?_
    refine gx_iconst (0 : Int32) dX11_wordOf_31 (by decide) ?_
    refine gx_iconst (0 : Int32) dX11_wordOf_32 (by decide) ?_
    refine gx_callV (ci := 9) (bc := 0) (bs := 0) (mc := 0) (ms := 0) (em' := (fun x : Int32 => some (.int x))) [.int (108 : Int32), .int (105 : Int32), .int (110 : Int32), .int (107 : Int32), .int (0 : Int32), .int (0 : Int32)] kc_RX11_135 rfl dX11_wordOf_33 rfl rfl (gx_w8 rfl) (fun x q => (gx_isO_of (by unfold fX11_isWord at q; exact q)).2) (fun _ _ q => okX11_isWord d q) (fun x4 h3 => ?_)
    refine gx_if_eq 43 dX11_wordOf_36 (by decide) (fun _ => ?_) (fun _ => ?_)
    · refine gx_aload_n 0 dX11_wordOf_43 rfl rfl ?_
      refine gx_bipush (112 : Int32) dX11_wordOf_44 (by decide) ?_
      refine gx_bipush (108 : Int32) dX11_wordOf_46 (by decide) ?_
      refine gx_bipush (97 : Int32) dX11_wordOf_48 (by decide) ?_
      refine gx_bipush (121 : Int32) dX11_wordOf_50 (by decide) ?_
      refine gx_bipush (101 : Int32) dX11_wordOf_52 (by decide) ?_
      refine gx_bipush (114 : Int32) dX11_wordOf_54 (by decide) ?_
      refine gx_callV (ci := 9) (bc := 0) (bs := 0) (mc := 0) (ms := 0) (em' := (fun x : Int32 => some (.int x))) [.int (112 : Int32), .int (108 : Int32), .int (97 : Int32), .int (121 : Int32), .int (101 : Int32), .int (114 : Int32)] kc_RX11_135 rfl dX11_wordOf_56 rfl rfl (gx_w8 rfl) (fun x q => (gx_isO_of (by unfold fX11_isWord at q; exact q)).2) (fun _ _ q => okX11_isWord d q) (fun x6 h5 => ?_)
      refine gx_if_eq 66 dX11_wordOf_59 (by decide) (fun _ => ?_) (fun _ => ?_)
      · refine gx_aload_n 0 dX11_wordOf_66 rfl rfl ?_
        refine gx_bipush (115 : Int32) dX11_wordOf_67 (by decide) ?_
        refine gx_bipush (101 : Int32) dX11_wordOf_69 (by decide) ?_
        refine gx_bipush (116 : Int32) dX11_wordOf_71 (by decide) ?_
        refine gx_iconst (0 : Int32) dX11_wordOf_73 (by decide) ?_
        refine gx_iconst (0 : Int32) dX11_wordOf_74 (by decide) ?_
        refine gx_iconst (0 : Int32) dX11_wordOf_75 (by decide) ?_
        refine gx_callV (ci := 9) (bc := 0) (bs := 0) (mc := 0) (ms := 0) (em' := (fun x : Int32 => some (.int x))) [.int (115 : Int32), .int (101 : Int32), .int (116 : Int32), .int (0 : Int32), .int (0 : Int32), .int (0 : Int32)] kc_RX11_135 rfl dX11_wordOf_76 rfl rfl (gx_w8 rfl) (fun x q => (gx_isO_of (by unfold fX11_isWord at q; exact q)).2) (fun _ _ q => okX11_isWord d q) (fun x8 h7 => ?_)
        refine gx_if_eq 86 dX11_wordOf_79 (by decide) (fun _ => ?_) (fun _ => ?_)
        · refine gx_aload_n 0 dX11_wordOf_86 rfl rfl ?_
          refine gx_bipush (116 : Int32) dX11_wordOf_87 (by decide) ?_
          refine gx_bipush (104 : Int32) dX11_wordOf_89 (by decide) ?_
          refine gx_bipush (114 : Int32) dX11_wordOf_91 (by decide) ?_
          refine gx_bipush (111 : Int32) dX11_wordOf_93 (by decide) ?_
          refine gx_bipush (119 : Int32) dX11_wordOf_95 (by decide) ?_
          refine gx_iconst (0 : Int32) dX11_wordOf_97 (by decide) ?_
          refine gx_callV (ci := 9) (bc := 0) (bs := 0) (mc := 0) (ms := 0) (em' := (fun x : Int32 => some (.int x))) [.int (116 : Int32), .int (104 : Int32), .int (114 : Int32), .int (111 : Int32), .int (119 : Int32), .int (0 : Int32)] kc_RX11_135 rfl dX11_wordOf_98 rfl rfl (gx_w8 rfl) (fun x q => (gx_isO_of (by unfold fX11_isWord at q; exact q)).2) (fun _ _ q => okX11_isWord d q) (fun x10 h9 => ?_)
          refine gx_if_eq 108 dX11_wordOf_101 (by decide) (fun _ => ?_) (fun _ => ?_)
          · refine gx_iconst (0 : Int32) dX11_wordOf_108 (by decide) ?_
            exact gx_sub (gX11_wordOf_109 (0 : Int32) h9) True.intro
          · refine gx_iconst (5 : Int32) dX11_wordOf_104 (by decide) ?_
            refine gx_goto 109 dX11_wordOf_105 (by decide) ?_
            exact gx_sub (gX11_wordOf_109 (5 : Int32) h9) True.intro
        · refine gx_iconst (4 : Int32) dX11_wordOf_82 (by decide) ?_
          refine gx_goto 109 dX11_wordOf_83 (by decide) ?_
          exact gx_sub (gX11_wordOf_109 (4 : Int32) h7) True.intro
      · refine gx_iconst (3 : Int32) dX11_wordOf_62 (by decide) ?_
        refine gx_goto 109 dX11_wordOf_63 (by decide) ?_
        exact gx_sub (gX11_wordOf_109 (3 : Int32) h5) True.intro
    · refine gx_iconst (2 : Int32) dX11_wordOf_39 (by decide) ?_
      refine gx_goto 109 dX11_wordOf_40 (by decide) ?_
      exact gx_sub (gX11_wordOf_109 (2 : Int32) h3) True.intro
  · refine gx_iconst (1 : Int32) dX11_wordOf_18 (by decide) ?_
    refine gx_goto 109 dX11_wordOf_19 (by decide) ?_
    exact gx_sub (gX11_wordOf_109 (1 : Int32) h1) True.intro
theorem okX11_wordOf {E : gx_Env} (d : Nat) {v0 : Nat} {h : gx_H} {r : Int32} {h1 : gx_H} (q : fX11_wordOf v0 h = some (r, h1)) : gx_M E yX11_wordOf cX11_wordOf 1 (some .int) (d + 2) 0 0 [.ref v0] h ((fun x : Int32 => some (.int x)) r) h1 := gx_meth (y := yX11_wordOf) (cc := cX11_wordOf) (nL := 1) (em := (fun x : Int32 => some (.int x))) (ini := false) [.ref v0] (by decide) (by simp [gx_sl]) (fun q => by cases q) (geX11_wordOf v0 h) q
theorem dX11_takesNumber_0 : decode cX11_takesNumber 0 = .ok (.aload_n 0, 1) := by decide +kernel
theorem dX11_takesNumber_1 : decode cX11_takesNumber 1 = .ok (.invokevirtual 124, 3) := by decide +kernel
theorem dX11_takesNumber_4 : decode cX11_takesNumber 4 = .ok (.aload_n 0, 1) := by decide +kernel
theorem dX11_takesNumber_5 : decode cX11_takesNumber 5 = .ok (.iconst 0, 1) := by decide +kernel
theorem dX11_takesNumber_6 : decode cX11_takesNumber 6 = .ok (.putfield 139, 3) := by decide +kernel
theorem dX11_takesNumber_9 : decode cX11_takesNumber 9 = .ok (.aload_n 0, 1) := by decide +kernel
theorem dX11_takesNumber_10 : decode cX11_takesNumber 10 = .ok (.aload_n 0, 1) := by decide +kernel
theorem dX11_takesNumber_11 : decode cX11_takesNumber 11 = .ok (.getfield 115, 3) := by decide +kernel
theorem dX11_takesNumber_14 : decode cX11_takesNumber 14 = .ok (.invokevirtual 118, 3) := by decide +kernel
theorem dX11_takesNumber_17 : decode cX11_takesNumber 17 = .ok (.i2l, 1) := by decide +kernel
theorem dX11_takesNumber_18 : decode cX11_takesNumber 18 = .ok (.ldc2_w 142, 3) := by decide +kernel
theorem dX11_takesNumber_21 : decode cX11_takesNumber 21 = .ok (.ldc2_w 144, 3) := by decide +kernel
theorem dX11_takesNumber_24 : decode cX11_takesNumber 24 = .ok (.invokestatic 39, 3) := by decide +kernel
theorem dX11_takesNumber_27 : decode cX11_takesNumber 27 = .ok (.ifCond .eq 59, 3) := by decide +kernel
theorem dX11_takesNumber_30 : decode cX11_takesNumber 30 = .ok (.aload_n 0, 1) := by decide +kernel
theorem dX11_takesNumber_31 : decode cX11_takesNumber 31 = .ok (.aload_n 0, 1) := by decide +kernel
theorem dX11_takesNumber_32 : decode cX11_takesNumber 32 = .ok (.getfield 115, 3) := by decide +kernel
theorem dX11_takesNumber_35 : decode cX11_takesNumber 35 = .ok (.aload_n 0, 1) := by decide +kernel
theorem dX11_takesNumber_36 : decode cX11_takesNumber 36 = .ok (.getfield 121, 3) := by decide +kernel
theorem dX11_takesNumber_39 : decode cX11_takesNumber 39 = .ok (.isub, 1) := by decide +kernel
theorem dX11_takesNumber_40 : decode cX11_takesNumber 40 = .ok (.iconst 2, 1) := by decide +kernel
theorem dX11_takesNumber_41 : decode cX11_takesNumber 41 = .ok (.if_icmp .ge 25, 3) := by decide +kernel
theorem dX11_takesNumber_44 : decode cX11_takesNumber 44 = .ok (.bipush 10, 2) := by decide +kernel
theorem dX11_takesNumber_46 : decode cX11_takesNumber 46 = .ok (.aload_n 0, 1) := by decide +kernel
theorem dX11_takesNumber_47 : decode cX11_takesNumber 47 = .ok (.getfield 139, 3) := by decide +kernel
theorem dX11_takesNumber_50 : decode cX11_takesNumber 50 = .ok (.imul, 1) := by decide +kernel
theorem dX11_takesNumber_51 : decode cX11_takesNumber 51 = .ok (.aload_n 0, 1) := by decide +kernel
theorem dX11_takesNumber_52 : decode cX11_takesNumber 52 = .ok (.aload_n 0, 1) := by decide +kernel
theorem dX11_takesNumber_53 : decode cX11_takesNumber 53 = .ok (.getfield 115, 3) := by decide +kernel
theorem dX11_takesNumber_56 : decode cX11_takesNumber 56 = .ok (.invokevirtual 118, 3) := by decide +kernel
theorem dX11_takesNumber_59 : decode cX11_takesNumber 59 = .ok (.iadd, 1) := by decide +kernel
theorem dX11_takesNumber_60 : decode cX11_takesNumber 60 = .ok (.bipush 48, 2) := by decide +kernel
theorem dX11_takesNumber_62 : decode cX11_takesNumber 62 = .ok (.isub, 1) := by decide +kernel
theorem dX11_takesNumber_63 : decode cX11_takesNumber 63 = .ok (.goto 7, 3) := by decide +kernel
theorem dX11_takesNumber_66 : decode cX11_takesNumber 66 = .ok (.aload_n 0, 1) := by decide +kernel
theorem dX11_takesNumber_67 : decode cX11_takesNumber 67 = .ok (.getfield 139, 3) := by decide +kernel
theorem dX11_takesNumber_70 : decode cX11_takesNumber 70 = .ok (.putfield 139, 3) := by decide +kernel
theorem dX11_takesNumber_73 : decode cX11_takesNumber 73 = .ok (.aload_n 0, 1) := by decide +kernel
theorem dX11_takesNumber_74 : decode cX11_takesNumber 74 = .ok (.dup, 1) := by decide +kernel
theorem dX11_takesNumber_75 : decode cX11_takesNumber 75 = .ok (.getfield 115, 3) := by decide +kernel
theorem dX11_takesNumber_78 : decode cX11_takesNumber 78 = .ok (.iconst 1, 1) := by decide +kernel
theorem dX11_takesNumber_79 : decode cX11_takesNumber 79 = .ok (.iadd, 1) := by decide +kernel
theorem dX11_takesNumber_80 : decode cX11_takesNumber 80 = .ok (.putfield 115, 3) := by decide +kernel
theorem dX11_takesNumber_83 : decode cX11_takesNumber 83 = .ok (.goto (-74), 3) := by decide +kernel
theorem dX11_takesNumber_86 : decode cX11_takesNumber 86 = .ok (.aload_n 0, 1) := by decide +kernel
theorem dX11_takesNumber_87 : decode cX11_takesNumber 87 = .ok (.getfield 115, 3) := by decide +kernel
theorem dX11_takesNumber_90 : decode cX11_takesNumber 90 = .ok (.aload_n 0, 1) := by decide +kernel
theorem dX11_takesNumber_91 : decode cX11_takesNumber 91 = .ok (.getfield 121, 3) := by decide +kernel
theorem dX11_takesNumber_94 : decode cX11_takesNumber 94 = .ok (.isub, 1) := by decide +kernel
theorem dX11_takesNumber_95 : decode cX11_takesNumber 95 = .ok (.i2l, 1) := by decide +kernel
theorem dX11_takesNumber_96 : decode cX11_takesNumber 96 = .ok (.lconst 1, 1) := by decide +kernel
theorem dX11_takesNumber_97 : decode cX11_takesNumber 97 = .ok (.ldc2_w 77, 3) := by decide +kernel
theorem dX11_takesNumber_100 : decode cX11_takesNumber 100 = .ok (.invokestatic 39, 3) := by decide +kernel
theorem dX11_takesNumber_103 : decode cX11_takesNumber 103 = .ok (.ifCond .eq 22, 3) := by decide +kernel
theorem dX11_takesNumber_106 : decode cX11_takesNumber 106 = .ok (.aload_n 0, 1) := by decide +kernel
theorem dX11_takesNumber_107 : decode cX11_takesNumber 107 = .ok (.getfield 139, 3) := by decide +kernel
theorem dX11_takesNumber_110 : decode cX11_takesNumber 110 = .ok (.i2l, 1) := by decide +kernel
theorem dX11_takesNumber_111 : decode cX11_takesNumber 111 = .ok (.iload_n 1, 1) := by decide +kernel
theorem dX11_takesNumber_112 : decode cX11_takesNumber 112 = .ok (.i2l, 1) := by decide +kernel
theorem dX11_takesNumber_113 : decode cX11_takesNumber 113 = .ok (.iload_n 2, 1) := by decide +kernel
theorem dX11_takesNumber_114 : decode cX11_takesNumber 114 = .ok (.i2l, 1) := by decide +kernel
theorem dX11_takesNumber_115 : decode cX11_takesNumber 115 = .ok (.invokestatic 39, 3) := by decide +kernel
theorem dX11_takesNumber_118 : decode cX11_takesNumber 118 = .ok (.ifCond .eq 7, 3) := by decide +kernel
theorem dX11_takesNumber_121 : decode cX11_takesNumber 121 = .ok (.iconst 1, 1) := by decide +kernel
theorem dX11_takesNumber_122 : decode cX11_takesNumber 122 = .ok (.goto 4, 3) := by decide +kernel
theorem dX11_takesNumber_125 : decode cX11_takesNumber 125 = .ok (.iconst 0, 1) := by decide +kernel
theorem dX11_takesNumber_126 : decode cX11_takesNumber 126 = .ok (.ireturn, 1) := by decide +kernel
def fX11_takesNumber_70 (k9 : Nat → Int32 → Int32 → gx_H → Option (Int32 × gx_H)) (v0 : Nat) (v1 : Int32) (v2 : Int32) (s0 : Nat) (s1 : Int32) (h : gx_H) : Option (Int32 × gx_H) :=
  (gx_pF h s0 9 9 (.int s1)).bind fun h23 =>
  (gx_fI h23 v0 9 7).bind fun x24 =>
  (gx_pF h23 v0 9 7 (.int (x24 + (1 : Int32)))).bind fun h25 =>
  k9 v0 v1 v2 h25
def fX11_takesNumber_126 (s0 : Int32) (h : gx_H) : Option (Int32 × gx_H) :=
  gx_ret .boolean s0 h
def fX11_takesNumber_125 (h : gx_H) : Option (Int32 × gx_H) :=
  fX11_takesNumber_126 (0 : Int32) h
def bX11_takesNumber_9 (k9 : Nat → Int32 → Int32 → gx_H → Option (Int32 × gx_H)) (v0 : Nat) (v1 : Int32) (v2 : Int32) (h : gx_H) : Option (Int32 × gx_H) :=
  (gx_fI h v0 9 7).bind fun x4 =>
  gx_bd (fX11_byteAt v0 x4 h) fun x6 h5 =>
  gx_bd (fX11_in ((x6).toInt64) (48 : Int64) (57 : Int64) h5) fun x8 h7 =>
  if x8 = 0 then
    (gx_fI h7 v0 9 7).bind fun x9 =>
    (gx_fI h7 v0 9 8).bind fun x10 =>
    gx_bd (fX11_in (((x9 - x10)).toInt64) (1 : Int64) (2 : Int64) h7) fun x12 h11 =>
    if x12 = 0 then
      fX11_takesNumber_125 h11
    else
      (gx_fI h11 v0 9 9).bind fun x13 =>
      gx_bd (fX11_in ((x13).toInt64) ((v1).toInt64) ((v2).toInt64) h11) fun x15 h14 =>
      if x15 = 0 then
        fX11_takesNumber_125 h14
      else
        fX11_takesNumber_126 (1 : Int32) h14
  else
    (gx_fI h7 v0 9 7).bind fun x16 =>
    (gx_fI h7 v0 9 8).bind fun x17 =>
    if (2 : Int32) ≤ (x16 - x17) then
      (gx_fI h7 v0 9 9).bind fun x18 =>
      fX11_takesNumber_70 k9 v0 v1 v2 v0 x18 h7
    else
      (gx_fI h7 v0 9 9).bind fun x19 =>
      (gx_fI h7 v0 9 7).bind fun x20 =>
      gx_bd (fX11_byteAt v0 x20 h7) fun x22 h21 =>
      fX11_takesNumber_70 k9 v0 v1 v2 v0 ((((10 : Int32) * x19) + x22) - (48 : Int32)) h21
def fX11_takesNumber_9 : Nat → Nat → Int32 → Int32 → gx_H → Option (Int32 × gx_H)
  | 0 => fun _ _ _ _ => none
  | n + 1 => bX11_takesNumber_9 (fX11_takesNumber_9 n)
def fX11_takesNumber (v0 : Nat) (v1 : Int32) (v2 : Int32) (h : gx_H) : Option (Int32 × gx_H) :=
  (gx_isO h v0 9).bind fun _ =>
  gx_bd (fX11_blanks v0 h) fun u2 h1 =>
  (gx_pF h1 v0 9 9 (.int (0 : Int32))).bind fun h3 =>
  fX11_takesNumber_9 gx_N v0 v1 v2 h3
set_option maxRecDepth 100000 in
set_option maxHeartbeats 4000000 in
theorem gX11_takesNumber_70 {E : gx_Env} {d : Nat} (k9 : Nat → Int32 → Int32 → gx_H → Option (Int32 × gx_H)) (hk9 : ∀ (v0 : Nat) (v1 : Int32) (v2 : Int32) (h : gx_H), gx_G E RX11 cX11_takesNumber 3 (some .boolean) false (d + 2) 0 0 9 [some (.ref v0), some (.int v1), some (.int v2)] [] h (fun x : Int32 => some (.int x)) (k9 v0 v1 v2 h))  : ∀ (v0 : Nat) (v1 : Int32) (v2 : Int32) (s0 : Nat) (s1 : Int32) (h : gx_H), gx_G E RX11 cX11_takesNumber 3 (some .boolean) false (d + 2) 0 0 70 [some (.ref v0), some (.int v1), some (.int v2)] [.int s1, .ref s0] h (fun x : Int32 => some (.int x)) (fX11_takesNumber_70 k9 v0 v1 v2 s0 s1 h) := by
  intro v0 v1 v2 s0 s1 h
  unfold fX11_takesNumber_70
  refine gx_putI kp_RX11_139 (fun q => by cases q) dX11_takesNumber_70 (fun h23 => ?_)
  refine gx_aload_n 0 dX11_takesNumber_73 rfl rfl ?_
  refine gx_dup dX11_takesNumber_74 rfl ?_
  refine gx_getI kf_RX11_115 dX11_takesNumber_75 (fun x24 => ?_)
  refine gx_iconst (1 : Int32) dX11_takesNumber_78 (by decide) ?_
  refine gx_iadd dX11_takesNumber_79 ?_
  refine gx_putI kp_RX11_115 (fun q => by cases q) dX11_takesNumber_80 (fun h25 => ?_)
  refine gx_goto 9 dX11_takesNumber_83 (by decide) ?_
  exact gx_sub (hk9 v0 v1 v2 h25) (And.intro rfl (And.intro rfl (And.intro rfl True.intro)))
set_option maxRecDepth 100000 in
set_option maxHeartbeats 4000000 in
theorem gX11_takesNumber_126 {E : gx_Env} {d : Nat}  : ∀ (s0 : Int32) (h : gx_H), gx_G E RX11 cX11_takesNumber 3 (some .boolean) false (d + 2) 0 0 126 [none, none, none] [.int s0] h (fun x : Int32 => some (.int x)) (fX11_takesNumber_126 s0 h) := by
  intro s0 h
  unfold fX11_takesNumber_126
  exact gx_zret dX11_takesNumber_126 rfl
set_option maxRecDepth 100000 in
set_option maxHeartbeats 4000000 in
theorem gX11_takesNumber_125 {E : gx_Env} {d : Nat}  : ∀  (h : gx_H), gx_G E RX11 cX11_takesNumber 3 (some .boolean) false (d + 2) 0 0 125 [none, none, none] [] h (fun x : Int32 => some (.int x)) (fX11_takesNumber_125 h) := by
  intro  h
  unfold fX11_takesNumber_125
  refine gx_iconst (0 : Int32) dX11_takesNumber_125 (by decide) ?_
  exact gx_sub (gX11_takesNumber_126 (0 : Int32) h) True.intro
set_option maxRecDepth 100000 in
set_option maxHeartbeats 4000000 in
theorem gbX11_takesNumber_9 {E : gx_Env} {d : Nat}  (k9 : Nat → Int32 → Int32 → gx_H → Option (Int32 × gx_H)) (hk9 : ∀ (v0 : Nat) (v1 : Int32) (v2 : Int32) (h : gx_H), gx_G E RX11 cX11_takesNumber 3 (some .boolean) false (d + 2) 0 0 9 [some (.ref v0), some (.int v1), some (.int v2)] [] h (fun x : Int32 => some (.int x)) (k9 v0 v1 v2 h))  : ∀ (v0 : Nat) (v1 : Int32) (v2 : Int32) (h : gx_H), gx_G E RX11 cX11_takesNumber 3 (some .boolean) false (d + 2) 0 0 9 [some (.ref v0), some (.int v1), some (.int v2)] [] h (fun x : Int32 => some (.int x)) (bX11_takesNumber_9 k9 v0 v1 v2 h) := by
  intro v0 v1 v2 h
  unfold bX11_takesNumber_9
  refine gx_aload_n 0 dX11_takesNumber_9 rfl rfl ?_
  refine gx_aload_n 0 dX11_takesNumber_10 rfl rfl ?_
  refine gx_getI kf_RX11_115 dX11_takesNumber_11 (fun x4 => ?_)
  refine gx_callV (ci := 9) (bc := 0) (bs := 0) (mc := 0) (ms := 0) (em' := (fun x : Int32 => some (.int x))) [.int x4] kc_RX11_118 rfl dX11_takesNumber_14 rfl rfl (gx_w8 rfl) (fun x q => (gx_isO_of (by unfold fX11_byteAt at q; exact q)).2) (fun _ _ q => okX11_byteAt (d + 1) q) (fun x6 h5 => ?_)
  refine gx_i2l dX11_takesNumber_17 ?_
  refine gx_ldc2 kk_RX11_142 dX11_takesNumber_18 ?_
  refine gx_ldc2 kk_RX11_144 dX11_takesNumber_21 ?_
  refine gx_callS (bc := 0) (bs := 0) (mc := 0) (ms := 0) (em' := (fun x : Int32 => some (.int x))) [.long ((x6).toInt64), .long (48 : Int64), .long (57 : Int64)] kc_RX11_39 dX11_takesNumber_24 rfl rfl (gx_w8 rfl) (fun _ _ q => okX11_in (d + 1) q) (fun x8 h7 => ?_)
  refine gx_if_eq 86 dX11_takesNumber_27 (by decide) (fun _ => ?_) (fun _ => ?_)
  · refine gx_aload_n 0 dX11_takesNumber_86 rfl rfl ?_
    refine gx_getI kf_RX11_115 dX11_takesNumber_87 (fun x9 => ?_)
    refine gx_aload_n 0 dX11_takesNumber_90 rfl rfl ?_
    refine gx_getI kf_RX11_121 dX11_takesNumber_91 (fun x10 => ?_)
    refine gx_isub dX11_takesNumber_94 ?_
    refine gx_i2l dX11_takesNumber_95 ?_
    refine gx_lconst (1 : Int64) dX11_takesNumber_96 (by decide) ?_
    refine gx_ldc2 kk_RX11_77 dX11_takesNumber_97 ?_
    refine gx_callS (bc := 0) (bs := 0) (mc := 0) (ms := 0) (em' := (fun x : Int32 => some (.int x))) [.long (((x9 - x10)).toInt64), .long (1 : Int64), .long (2 : Int64)] kc_RX11_39 dX11_takesNumber_100 rfl rfl (gx_w8 rfl) (fun _ _ q => okX11_in (d + 1) q) (fun x12 h11 => ?_)
    refine gx_if_eq 125 dX11_takesNumber_103 (by decide) (fun _ => ?_) (fun _ => ?_)
    · exact gx_sub (gX11_takesNumber_125 h11) True.intro
    · refine gx_aload_n 0 dX11_takesNumber_106 rfl rfl ?_
      refine gx_getI kf_RX11_139 dX11_takesNumber_107 (fun x13 => ?_)
      refine gx_i2l dX11_takesNumber_110 ?_
      refine gx_iload_n 1 dX11_takesNumber_111 rfl rfl ?_
      refine gx_i2l dX11_takesNumber_112 ?_
      refine gx_iload_n 2 dX11_takesNumber_113 rfl rfl ?_
      refine gx_i2l dX11_takesNumber_114 ?_
      refine gx_callS (bc := 0) (bs := 0) (mc := 0) (ms := 0) (em' := (fun x : Int32 => some (.int x))) [.long ((x13).toInt64), .long ((v1).toInt64), .long ((v2).toInt64)] kc_RX11_39 dX11_takesNumber_115 rfl rfl (gx_w8 rfl) (fun _ _ q => okX11_in (d + 1) q) (fun x15 h14 => ?_)
      refine gx_if_eq 125 dX11_takesNumber_118 (by decide) (fun _ => ?_) (fun _ => ?_)
      · exact gx_sub (gX11_takesNumber_125 h14) True.intro
      · refine gx_iconst (1 : Int32) dX11_takesNumber_121 (by decide) ?_
        refine gx_goto 126 dX11_takesNumber_122 (by decide) ?_
        exact gx_sub (gX11_takesNumber_126 (1 : Int32) h14) True.intro
  · refine gx_aload_n 0 dX11_takesNumber_30 rfl rfl ?_
    refine gx_aload_n 0 dX11_takesNumber_31 rfl rfl ?_
    refine gx_getI kf_RX11_115 dX11_takesNumber_32 (fun x16 => ?_)
    refine gx_aload_n 0 dX11_takesNumber_35 rfl rfl ?_
    refine gx_getI kf_RX11_121 dX11_takesNumber_36 (fun x17 => ?_)
    refine gx_isub dX11_takesNumber_39 ?_
    refine gx_iconst (2 : Int32) dX11_takesNumber_40 (by decide) ?_
    refine gx_icmp_ge 66 dX11_takesNumber_41 (by decide) (fun _ => ?_) (fun _ => ?_)
    · refine gx_aload_n 0 dX11_takesNumber_66 rfl rfl ?_
      refine gx_getI kf_RX11_139 dX11_takesNumber_67 (fun x18 => ?_)
      exact gx_sub (gX11_takesNumber_70 k9 hk9 v0 v1 v2 v0 x18 h7) (And.intro rfl (And.intro rfl (And.intro rfl True.intro)))
    · refine gx_bipush (10 : Int32) dX11_takesNumber_44 (by decide) ?_
      refine gx_aload_n 0 dX11_takesNumber_46 rfl rfl ?_
      refine gx_getI kf_RX11_139 dX11_takesNumber_47 (fun x19 => ?_)
      refine gx_imul dX11_takesNumber_50 ?_
      refine gx_aload_n 0 dX11_takesNumber_51 rfl rfl ?_
      refine gx_aload_n 0 dX11_takesNumber_52 rfl rfl ?_
      refine gx_getI kf_RX11_115 dX11_takesNumber_53 (fun x20 => ?_)
      refine gx_callV (ci := 9) (bc := 0) (bs := 0) (mc := 0) (ms := 0) (em' := (fun x : Int32 => some (.int x))) [.int x20] kc_RX11_118 rfl dX11_takesNumber_56 rfl rfl (gx_w8 rfl) (fun x q => (gx_isO_of (by unfold fX11_byteAt at q; exact q)).2) (fun _ _ q => okX11_byteAt (d + 1) q) (fun x22 h21 => ?_)
      refine gx_iadd dX11_takesNumber_59 ?_
      refine gx_bipush (48 : Int32) dX11_takesNumber_60 (by decide) ?_
      refine gx_isub dX11_takesNumber_62 ?_
      refine gx_goto 70 dX11_takesNumber_63 (by decide) ?_
      exact gx_sub (gX11_takesNumber_70 k9 hk9 v0 v1 v2 v0 ((((10 : Int32) * x19) + x22) - (48 : Int32)) h21) (And.intro rfl (And.intro rfl (And.intro rfl True.intro)))
set_option maxRecDepth 100000 in
set_option maxHeartbeats 4000000 in
theorem gX11_takesNumber_9 {E : gx_Env} {d : Nat}  : ∀ (n : Nat) (v0 : Nat) (v1 : Int32) (v2 : Int32) (h : gx_H), gx_G E RX11 cX11_takesNumber 3 (some .boolean) false (d + 2) 0 0 9 [some (.ref v0), some (.int v1), some (.int v2)] [] h (fun x : Int32 => some (.int x)) (fX11_takesNumber_9 n v0 v1 v2 h) := by
  intro n
  induction n with
  | zero => intro v0 v1 v2 h; exact gx_none
  | succ n ih => exact gbX11_takesNumber_9  (fX11_takesNumber_9  n) ih
set_option maxRecDepth 100000 in
set_option maxHeartbeats 4000000 in
theorem geX11_takesNumber {E : gx_Env} {d : Nat} (v0 : Nat) (v1 : Int32) (v2 : Int32) (h : gx_H) : gx_G E RX11 cX11_takesNumber 3 (some .boolean) false (d + 2) 0 0 0 [some (.ref v0), some (.int v1), some (.int v2)] [] h (fun x : Int32 => some (.int x)) (fX11_takesNumber v0 v1 v2 h) := by
  unfold fX11_takesNumber
  refine gx_bind fun _ _ => ?_
  refine gx_aload_n 0 dX11_takesNumber_0 rfl rfl ?_
  refine gx_callV (ci := 9) (bc := 0) (bs := 0) (mc := 0) (ms := 0) (em' := (fun _ : Unit => none)) [] kc_RX11_124 rfl dX11_takesNumber_1 rfl rfl (gx_w8 rfl) (fun x q => (gx_isO_of (by unfold fX11_blanks at q; exact q)).2) (fun _ _ q => okX11_blanks d q) (fun u2 h1 => ?_)
  refine gx_aload_n 0 dX11_takesNumber_4 rfl rfl ?_
  refine gx_iconst (0 : Int32) dX11_takesNumber_5 (by decide) ?_
  refine gx_putI kp_RX11_139 (fun q => by cases q) dX11_takesNumber_6 (fun h3 => ?_)
  exact gx_sub (gX11_takesNumber_9 gx_N v0 v1 v2 h3) (And.intro rfl (And.intro rfl (And.intro rfl True.intro)))
theorem okX11_takesNumber {E : gx_Env} (d : Nat) {v0 : Nat} {v1 : Int32} {v2 : Int32} {h : gx_H} {r : Int32} {h1 : gx_H} (q : fX11_takesNumber v0 v1 v2 h = some (r, h1)) : gx_M E yX11_takesNumber cX11_takesNumber 3 (some .boolean) (d + 2) 0 0 [.ref v0, .int v1, .int v2] h ((fun x : Int32 => some (.int x)) r) h1 := gx_meth (y := yX11_takesNumber) (cc := cX11_takesNumber) (nL := 3) (em := (fun x : Int32 => some (.int x))) (ini := false) [.ref v0, .int v1, .int v2] (by decide) (by simp [gx_sl]) (fun q => by cases q) (geX11_takesNumber v0 v1 v2 h) q
theorem dX11_takesEnd_0 : decode cX11_takesEnd 0 = .ok (.aload_n 0, 1) := by decide +kernel
theorem dX11_takesEnd_1 : decode cX11_takesEnd 1 = .ok (.invokevirtual 124, 3) := by decide +kernel
theorem dX11_takesEnd_4 : decode cX11_takesEnd 4 = .ok (.aload_n 0, 1) := by decide +kernel
theorem dX11_takesEnd_5 : decode cX11_takesEnd 5 = .ok (.dup, 1) := by decide +kernel
theorem dX11_takesEnd_6 : decode cX11_takesEnd 6 = .ok (.getfield 115, 3) := by decide +kernel
theorem dX11_takesEnd_9 : decode cX11_takesEnd 9 = .ok (.iconst 1, 1) := by decide +kernel
theorem dX11_takesEnd_10 : decode cX11_takesEnd 10 = .ok (.iadd, 1) := by decide +kernel
theorem dX11_takesEnd_11 : decode cX11_takesEnd 11 = .ok (.putfield 115, 3) := by decide +kernel
theorem dX11_takesEnd_14 : decode cX11_takesEnd 14 = .ok (.aload_n 0, 1) := by decide +kernel
theorem dX11_takesEnd_15 : decode cX11_takesEnd 15 = .ok (.aload_n 0, 1) := by decide +kernel
theorem dX11_takesEnd_16 : decode cX11_takesEnd 16 = .ok (.getfield 121, 3) := by decide +kernel
theorem dX11_takesEnd_19 : decode cX11_takesEnd 19 = .ok (.invokevirtual 118, 3) := by decide +kernel
theorem dX11_takesEnd_22 : decode cX11_takesEnd 22 = .ok (.bipush 59, 2) := by decide +kernel
theorem dX11_takesEnd_24 : decode cX11_takesEnd 24 = .ok (.if_icmp .ne 7, 3) := by decide +kernel
theorem dX11_takesEnd_27 : decode cX11_takesEnd 27 = .ok (.iconst 1, 1) := by decide +kernel
theorem dX11_takesEnd_28 : decode cX11_takesEnd 28 = .ok (.goto 4, 3) := by decide +kernel
theorem dX11_takesEnd_31 : decode cX11_takesEnd 31 = .ok (.iconst 0, 1) := by decide +kernel
theorem dX11_takesEnd_32 : decode cX11_takesEnd 32 = .ok (.ireturn, 1) := by decide +kernel
def fX11_takesEnd_32 (s0 : Int32) (h : gx_H) : Option (Int32 × gx_H) :=
  gx_ret .boolean s0 h
def fX11_takesEnd (v0 : Nat) (h : gx_H) : Option (Int32 × gx_H) :=
  (gx_isO h v0 9).bind fun _ =>
  gx_bd (fX11_blanks v0 h) fun u2 h1 =>
  (gx_fI h1 v0 9 7).bind fun x3 =>
  (gx_pF h1 v0 9 7 (.int (x3 + (1 : Int32)))).bind fun h4 =>
  (gx_fI h4 v0 9 8).bind fun x5 =>
  gx_bd (fX11_byteAt v0 x5 h4) fun x7 h6 =>
  if x7 = (59 : Int32) then
    fX11_takesEnd_32 (1 : Int32) h6
  else
    fX11_takesEnd_32 (0 : Int32) h6
set_option maxRecDepth 100000 in
set_option maxHeartbeats 4000000 in
theorem gX11_takesEnd_32 {E : gx_Env} {d : Nat}  : ∀ (s0 : Int32) (h : gx_H), gx_G E RX11 cX11_takesEnd 1 (some .boolean) false (d + 2) 0 0 32 [none] [.int s0] h (fun x : Int32 => some (.int x)) (fX11_takesEnd_32 s0 h) := by
  intro s0 h
  unfold fX11_takesEnd_32
  exact gx_zret dX11_takesEnd_32 rfl
set_option maxRecDepth 100000 in
set_option maxHeartbeats 4000000 in
theorem geX11_takesEnd {E : gx_Env} {d : Nat} (v0 : Nat) (h : gx_H) : gx_G E RX11 cX11_takesEnd 1 (some .boolean) false (d + 2) 0 0 0 [some (.ref v0)] [] h (fun x : Int32 => some (.int x)) (fX11_takesEnd v0 h) := by
  unfold fX11_takesEnd
  refine gx_bind fun _ _ => ?_
  refine gx_aload_n 0 dX11_takesEnd_0 rfl rfl ?_
  refine gx_callV (ci := 9) (bc := 0) (bs := 0) (mc := 0) (ms := 0) (em' := (fun _ : Unit => none)) [] kc_RX11_124 rfl dX11_takesEnd_1 rfl rfl (gx_w8 rfl) (fun x q => (gx_isO_of (by unfold fX11_blanks at q; exact q)).2) (fun _ _ q => okX11_blanks d q) (fun u2 h1 => ?_)
  refine gx_aload_n 0 dX11_takesEnd_4 rfl rfl ?_
  refine gx_dup dX11_takesEnd_5 rfl ?_
  refine gx_getI kf_RX11_115 dX11_takesEnd_6 (fun x3 => ?_)
  refine gx_iconst (1 : Int32) dX11_takesEnd_9 (by decide) ?_
  refine gx_iadd dX11_takesEnd_10 ?_
  refine gx_putI kp_RX11_115 (fun q => by cases q) dX11_takesEnd_11 (fun h4 => ?_)
  refine gx_aload_n 0 dX11_takesEnd_14 rfl rfl ?_
  refine gx_aload_n 0 dX11_takesEnd_15 rfl rfl ?_
  refine gx_getI kf_RX11_121 dX11_takesEnd_16 (fun x5 => ?_)
  refine gx_callV (ci := 9) (bc := 0) (bs := 0) (mc := 0) (ms := 0) (em' := (fun x : Int32 => some (.int x))) [.int x5] kc_RX11_118 rfl dX11_takesEnd_19 rfl rfl (gx_w8 rfl) (fun x q => (gx_isO_of (by unfold fX11_byteAt at q; exact q)).2) (fun _ _ q => okX11_byteAt (d + 1) q) (fun x7 h6 => ?_)
  refine gx_bipush (59 : Int32) dX11_takesEnd_22 (by decide) ?_
  refine gx_icmp_ne 31 dX11_takesEnd_24 (by decide) (fun _ => ?_) (fun _ => ?_)
  · refine gx_iconst (0 : Int32) dX11_takesEnd_31 (by decide) ?_
    exact gx_sub (gX11_takesEnd_32 (0 : Int32) h6) True.intro
  · refine gx_iconst (1 : Int32) dX11_takesEnd_27 (by decide) ?_
    refine gx_goto 32 dX11_takesEnd_28 (by decide) ?_
    exact gx_sub (gX11_takesEnd_32 (1 : Int32) h6) True.intro
theorem okX11_takesEnd {E : gx_Env} (d : Nat) {v0 : Nat} {h : gx_H} {r : Int32} {h1 : gx_H} (q : fX11_takesEnd v0 h = some (r, h1)) : gx_M E yX11_takesEnd cX11_takesEnd 1 (some .boolean) (d + 2) 0 0 [.ref v0] h ((fun x : Int32 => some (.int x)) r) h1 := gx_meth (y := yX11_takesEnd) (cc := cX11_takesEnd) (nL := 1) (em := (fun x : Int32 => some (.int x))) (ini := false) [.ref v0] (by decide) (by simp [gx_sl]) (fun q => by cases q) (geX11_takesEnd v0 h) q
theorem dX11_readsBoard_0 : decode cX11_readsBoard 0 = .ok (.aload_n 0, 1) := by decide +kernel
theorem dX11_readsBoard_1 : decode cX11_readsBoard 1 = .ok (.bipush 10, 2) := by decide +kernel
theorem dX11_readsBoard_3 : decode cX11_readsBoard 3 = .ok (.bipush 40, 2) := by decide +kernel
theorem dX11_readsBoard_5 : decode cX11_readsBoard 5 = .ok (.invokevirtual 146, 3) := by decide +kernel
theorem dX11_readsBoard_8 : decode cX11_readsBoard 8 = .ok (.ifCond .ne 5, 3) := by decide +kernel
theorem dX11_readsBoard_11 : decode cX11_readsBoard 11 = .ok (.iconst 0, 1) := by decide +kernel
theorem dX11_readsBoard_12 : decode cX11_readsBoard 12 = .ok (.ireturn, 1) := by decide +kernel
theorem dX11_readsBoard_13 : decode cX11_readsBoard 13 = .ok (.aload_n 0, 1) := by decide +kernel
theorem dX11_readsBoard_14 : decode cX11_readsBoard 14 = .ok (.getfield 7, 3) := by decide +kernel
theorem dX11_readsBoard_17 : decode cX11_readsBoard 17 = .ok (.sipush 609, 3) := by decide +kernel
theorem dX11_readsBoard_20 : decode cX11_readsBoard 20 = .ok (.aload_n 0, 1) := by decide +kernel
theorem dX11_readsBoard_21 : decode cX11_readsBoard 21 = .ok (.getfield 139, 3) := by decide +kernel
theorem dX11_readsBoard_24 : decode cX11_readsBoard 24 = .ok (.iastore, 1) := by decide +kernel
theorem dX11_readsBoard_25 : decode cX11_readsBoard 25 = .ok (.aload_n 0, 1) := by decide +kernel
theorem dX11_readsBoard_26 : decode cX11_readsBoard 26 = .ok (.iconst 2, 1) := by decide +kernel
theorem dX11_readsBoard_27 : decode cX11_readsBoard 27 = .ok (.bipush 6, 2) := by decide +kernel
theorem dX11_readsBoard_29 : decode cX11_readsBoard 29 = .ok (.invokevirtual 146, 3) := by decide +kernel
theorem dX11_readsBoard_32 : decode cX11_readsBoard 32 = .ok (.ifCond .ne 5, 3) := by decide +kernel
theorem dX11_readsBoard_35 : decode cX11_readsBoard 35 = .ok (.iconst 0, 1) := by decide +kernel
theorem dX11_readsBoard_36 : decode cX11_readsBoard 36 = .ok (.ireturn, 1) := by decide +kernel
theorem dX11_readsBoard_37 : decode cX11_readsBoard 37 = .ok (.aload_n 0, 1) := by decide +kernel
theorem dX11_readsBoard_38 : decode cX11_readsBoard 38 = .ok (.getfield 7, 3) := by decide +kernel
theorem dX11_readsBoard_41 : decode cX11_readsBoard 41 = .ok (.sipush 610, 3) := by decide +kernel
theorem dX11_readsBoard_44 : decode cX11_readsBoard 44 = .ok (.aload_n 0, 1) := by decide +kernel
theorem dX11_readsBoard_45 : decode cX11_readsBoard 45 = .ok (.getfield 139, 3) := by decide +kernel
theorem dX11_readsBoard_48 : decode cX11_readsBoard 48 = .ok (.iastore, 1) := by decide +kernel
theorem dX11_readsBoard_49 : decode cX11_readsBoard 49 = .ok (.iconst 1, 1) := by decide +kernel
theorem dX11_readsBoard_50 : decode cX11_readsBoard 50 = .ok (.ireturn, 1) := by decide +kernel
def fX11_readsBoard (v0 : Nat) (h : gx_H) : Option (Int32 × gx_H) :=
  (gx_isO h v0 9).bind fun _ =>
  gx_bd (fX11_takesNumber v0 (10 : Int32) (40 : Int32) h) fun x2 h1 =>
  if x2 = 0 then
    gx_ret .boolean (0 : Int32) h1
  else
    (gx_fR h1 v0 9 0).bind fun a3 =>
    (gx_fI h1 v0 9 9).bind fun x4 =>
    (gx_sI 0 h1 a3 (609 : Int32) x4).bind fun h5 =>
    gx_bd (fX11_takesNumber v0 (2 : Int32) (6 : Int32) h5) fun x7 h6 =>
    if x7 = 0 then
      gx_ret .boolean (0 : Int32) h6
    else
      (gx_fR h6 v0 9 0).bind fun a8 =>
      (gx_fI h6 v0 9 9).bind fun x9 =>
      (gx_sI 0 h6 a8 (610 : Int32) x9).bind fun h10 =>
      gx_ret .boolean (1 : Int32) h10
set_option maxRecDepth 100000 in
set_option maxHeartbeats 4000000 in
theorem geX11_readsBoard {E : gx_Env} {d : Nat} (v0 : Nat) (h : gx_H) : gx_G E RX11 cX11_readsBoard 1 (some .boolean) false (d + 3) 0 0 0 [some (.ref v0)] [] h (fun x : Int32 => some (.int x)) (fX11_readsBoard v0 h) := by
  unfold fX11_readsBoard
  refine gx_bind fun _ _ => ?_
  refine gx_aload_n 0 dX11_readsBoard_0 rfl rfl ?_
  refine gx_bipush (10 : Int32) dX11_readsBoard_1 (by decide) ?_
  refine gx_bipush (40 : Int32) dX11_readsBoard_3 (by decide) ?_
  refine gx_callV (ci := 9) (bc := 0) (bs := 0) (mc := 0) (ms := 0) (em' := (fun x : Int32 => some (.int x))) [.int (10 : Int32), .int (40 : Int32)] kc_RX11_146 rfl dX11_readsBoard_5 rfl rfl (gx_w8 rfl) (fun x q => (gx_isO_of (by unfold fX11_takesNumber at q; exact q)).2) (fun _ _ q => okX11_takesNumber d q) (fun x2 h1 => ?_)
  refine gx_if_ne 13 dX11_readsBoard_8 (by decide) (fun _ => ?_) (fun _ => ?_)
  · refine gx_aload_n 0 dX11_readsBoard_13 rfl rfl ?_
    refine gx_getR kf_RX11_7 dX11_readsBoard_14 (fun a3 => ?_)
    refine gx_sipush (609 : Int32) dX11_readsBoard_17 (by decide) ?_
    refine gx_aload_n 0 dX11_readsBoard_20 rfl rfl ?_
    refine gx_getI kf_RX11_139 dX11_readsBoard_21 (fun x4 => ?_)
    refine gx_iast dX11_readsBoard_24 (fun h5 => ?_)
    refine gx_aload_n 0 dX11_readsBoard_25 rfl rfl ?_
    refine gx_iconst (2 : Int32) dX11_readsBoard_26 (by decide) ?_
    refine gx_bipush (6 : Int32) dX11_readsBoard_27 (by decide) ?_
    refine gx_callV (ci := 9) (bc := 0) (bs := 0) (mc := 0) (ms := 0) (em' := (fun x : Int32 => some (.int x))) [.int (2 : Int32), .int (6 : Int32)] kc_RX11_146 rfl dX11_readsBoard_29 rfl rfl (gx_w8 rfl) (fun x q => (gx_isO_of (by unfold fX11_takesNumber at q; exact q)).2) (fun _ _ q => okX11_takesNumber d q) (fun x7 h6 => ?_)
    refine gx_if_ne 37 dX11_readsBoard_32 (by decide) (fun _ => ?_) (fun _ => ?_)
    · refine gx_aload_n 0 dX11_readsBoard_37 rfl rfl ?_
      refine gx_getR kf_RX11_7 dX11_readsBoard_38 (fun a8 => ?_)
      refine gx_sipush (610 : Int32) dX11_readsBoard_41 (by decide) ?_
      refine gx_aload_n 0 dX11_readsBoard_44 rfl rfl ?_
      refine gx_getI kf_RX11_139 dX11_readsBoard_45 (fun x9 => ?_)
      refine gx_iast dX11_readsBoard_48 (fun h10 => ?_)
      refine gx_iconst (1 : Int32) dX11_readsBoard_49 (by decide) ?_
      exact gx_zret dX11_readsBoard_50 rfl
    · refine gx_iconst (0 : Int32) dX11_readsBoard_35 (by decide) ?_
      exact gx_zret dX11_readsBoard_36 rfl
  · refine gx_iconst (0 : Int32) dX11_readsBoard_11 (by decide) ?_
    exact gx_zret dX11_readsBoard_12 rfl
theorem okX11_readsBoard {E : gx_Env} (d : Nat) {v0 : Nat} {h : gx_H} {r : Int32} {h1 : gx_H} (q : fX11_readsBoard v0 h = some (r, h1)) : gx_M E yX11_readsBoard cX11_readsBoard 1 (some .boolean) (d + 3) 0 0 [.ref v0] h ((fun x : Int32 => some (.int x)) r) h1 := gx_meth (y := yX11_readsBoard) (cc := cX11_readsBoard) (nL := 1) (em := (fun x : Int32 => some (.int x))) (ini := false) [.ref v0] (by decide) (by simp [gx_sl]) (fun q => by cases q) (geX11_readsBoard v0 h) q
theorem dX11_readsLink_0 : decode cX11_readsLink 0 = .ok (.aload_n 0, 1) := by decide +kernel
theorem dX11_readsLink_1 : decode cX11_readsLink 1 = .ok (.getfield 7, 3) := by decide +kernel
theorem dX11_readsLink_4 : decode cX11_readsLink 4 = .ok (.sipush 611, 3) := by decide +kernel
theorem dX11_readsLink_7 : decode cX11_readsLink 7 = .ok (.iaload, 1) := by decide +kernel
theorem dX11_readsLink_8 : decode cX11_readsLink 8 = .ok (.bipush 6, 2) := by decide +kernel
theorem dX11_readsLink_10 : decode cX11_readsLink 10 = .ok (.if_icmp .eq 12, 3) := by decide +kernel
theorem dX11_readsLink_13 : decode cX11_readsLink 13 = .ok (.aload_n 0, 1) := by decide +kernel
theorem dX11_readsLink_14 : decode cX11_readsLink 14 = .ok (.iconst 0, 1) := by decide +kernel
theorem dX11_readsLink_15 : decode cX11_readsLink 15 = .ok (.iconst 5, 1) := by decide +kernel
theorem dX11_readsLink_16 : decode cX11_readsLink 16 = .ok (.invokevirtual 146, 3) := by decide +kernel
theorem dX11_readsLink_19 : decode cX11_readsLink 19 = .ok (.ifCond .ne 5, 3) := by decide +kernel
theorem dX11_readsLink_22 : decode cX11_readsLink 22 = .ok (.iconst 0, 1) := by decide +kernel
theorem dX11_readsLink_23 : decode cX11_readsLink 23 = .ok (.ireturn, 1) := by decide +kernel
theorem dX11_readsLink_24 : decode cX11_readsLink 24 = .ok (.aload_n 0, 1) := by decide +kernel
theorem dX11_readsLink_25 : decode cX11_readsLink 25 = .ok (.getfield 139, 3) := by decide +kernel
theorem dX11_readsLink_28 : decode cX11_readsLink 28 = .ok (.istore_n 1, 1) := by decide +kernel
theorem dX11_readsLink_29 : decode cX11_readsLink 29 = .ok (.aload_n 0, 1) := by decide +kernel
theorem dX11_readsLink_30 : decode cX11_readsLink 30 = .ok (.iconst 1, 1) := by decide +kernel
theorem dX11_readsLink_31 : decode cX11_readsLink 31 = .ok (.aload_n 0, 1) := by decide +kernel
theorem dX11_readsLink_32 : decode cX11_readsLink 32 = .ok (.getfield 7, 3) := by decide +kernel
theorem dX11_readsLink_35 : decode cX11_readsLink 35 = .ok (.sipush 609, 3) := by decide +kernel
theorem dX11_readsLink_38 : decode cX11_readsLink 38 = .ok (.iaload, 1) := by decide +kernel
theorem dX11_readsLink_39 : decode cX11_readsLink 39 = .ok (.iconst 1, 1) := by decide +kernel
theorem dX11_readsLink_40 : decode cX11_readsLink 40 = .ok (.isub, 1) := by decide +kernel
theorem dX11_readsLink_41 : decode cX11_readsLink 41 = .ok (.invokevirtual 146, 3) := by decide +kernel
theorem dX11_readsLink_44 : decode cX11_readsLink 44 = .ok (.ifCond .eq 17, 3) := by decide +kernel
theorem dX11_readsLink_47 : decode cX11_readsLink 47 = .ok (.aload_n 0, 1) := by decide +kernel
theorem dX11_readsLink_48 : decode cX11_readsLink 48 = .ok (.sipush 609, 3) := by decide +kernel
theorem dX11_readsLink_51 : decode cX11_readsLink 51 = .ok (.aload_n 0, 1) := by decide +kernel
theorem dX11_readsLink_52 : decode cX11_readsLink 52 = .ok (.getfield 139, 3) := by decide +kernel
theorem dX11_readsLink_55 : decode cX11_readsLink 55 = .ok (.invokevirtual 65, 3) := by decide +kernel
theorem dX11_readsLink_58 : decode cX11_readsLink 58 = .ok (.ifCond .lt 5, 3) := by decide +kernel
theorem dX11_readsLink_61 : decode cX11_readsLink 61 = .ok (.iconst 0, 1) := by decide +kernel
theorem dX11_readsLink_62 : decode cX11_readsLink 62 = .ok (.ireturn, 1) := by decide +kernel
theorem dX11_readsLink_63 : decode cX11_readsLink 63 = .ok (.aload_n 0, 1) := by decide +kernel
theorem dX11_readsLink_64 : decode cX11_readsLink 64 = .ok (.getfield 139, 3) := by decide +kernel
theorem dX11_readsLink_67 : decode cX11_readsLink 67 = .ok (.istore_n 2, 1) := by decide +kernel
theorem dX11_readsLink_68 : decode cX11_readsLink 68 = .ok (.aload_n 0, 1) := by decide +kernel
theorem dX11_readsLink_69 : decode cX11_readsLink 69 = .ok (.iconst 0, 1) := by decide +kernel
theorem dX11_readsLink_70 : decode cX11_readsLink 70 = .ok (.aload_n 0, 1) := by decide +kernel
theorem dX11_readsLink_71 : decode cX11_readsLink 71 = .ok (.getfield 7, 3) := by decide +kernel
theorem dX11_readsLink_74 : decode cX11_readsLink 74 = .ok (.sipush 609, 3) := by decide +kernel
theorem dX11_readsLink_77 : decode cX11_readsLink 77 = .ok (.iaload, 1) := by decide +kernel
theorem dX11_readsLink_78 : decode cX11_readsLink 78 = .ok (.invokevirtual 146, 3) := by decide +kernel
theorem dX11_readsLink_81 : decode cX11_readsLink 81 = .ok (.ifCond .eq 11, 3) := by decide +kernel
theorem dX11_readsLink_84 : decode cX11_readsLink 84 = .ok (.aload_n 0, 1) := by decide +kernel
theorem dX11_readsLink_85 : decode cX11_readsLink 85 = .ok (.getfield 139, 3) := by decide +kernel
theorem dX11_readsLink_88 : decode cX11_readsLink 88 = .ok (.iload_n 2, 1) := by decide +kernel
theorem dX11_readsLink_89 : decode cX11_readsLink 89 = .ok (.if_icmp .ne 5, 3) := by decide +kernel
theorem dX11_readsLink_92 : decode cX11_readsLink 92 = .ok (.iconst 0, 1) := by decide +kernel
theorem dX11_readsLink_93 : decode cX11_readsLink 93 = .ok (.ireturn, 1) := by decide +kernel
theorem dX11_readsLink_94 : decode cX11_readsLink 94 = .ok (.aload_n 0, 1) := by decide +kernel
theorem dX11_readsLink_95 : decode cX11_readsLink 95 = .ok (.sipush 609, 3) := by decide +kernel
theorem dX11_readsLink_98 : decode cX11_readsLink 98 = .ok (.iload_n 1, 1) := by decide +kernel
theorem dX11_readsLink_99 : decode cX11_readsLink 99 = .ok (.iload_n 2, 1) := by decide +kernel
theorem dX11_readsLink_100 : decode cX11_readsLink 100 = .ok (.aload_n 0, 1) := by decide +kernel
theorem dX11_readsLink_101 : decode cX11_readsLink 101 = .ok (.getfield 139, 3) := by decide +kernel
theorem dX11_readsLink_104 : decode cX11_readsLink 104 = .ok (.invokevirtual 101, 3) := by decide +kernel
theorem dX11_readsLink_107 : decode cX11_readsLink 107 = .ok (.iconst 1, 1) := by decide +kernel
theorem dX11_readsLink_108 : decode cX11_readsLink 108 = .ok (.ireturn, 1) := by decide +kernel
def fX11_readsLink_22 (h : gx_H) : Option (Int32 × gx_H) :=
  gx_ret .boolean (0 : Int32) h
def fX11_readsLink_61 (h : gx_H) : Option (Int32 × gx_H) :=
  gx_ret .boolean (0 : Int32) h
def fX11_readsLink_92 (h : gx_H) : Option (Int32 × gx_H) :=
  gx_ret .boolean (0 : Int32) h
def fX11_readsLink (v0 : Nat) (h : gx_H) : Option (Int32 × gx_H) :=
  (gx_isO h v0 9).bind fun _ =>
  (gx_fR h v0 9 0).bind fun a1 =>
  (gx_aI 0 h a1 (611 : Int32)).bind fun x2 =>
  if x2 = (6 : Int32) then
    fX11_readsLink_22 h
  else
    gx_bd (fX11_takesNumber v0 (0 : Int32) (5 : Int32) h) fun x4 h3 =>
    if x4 = 0 then
      fX11_readsLink_22 h3
    else
      (gx_fI h3 v0 9 9).bind fun x5 =>
      (gx_fR h3 v0 9 0).bind fun a6 =>
      (gx_aI 0 h3 a6 (609 : Int32)).bind fun x7 =>
      gx_bd (fX11_takesNumber v0 (1 : Int32) (x7 - (1 : Int32)) h3) fun x9 h8 =>
      if x9 = 0 then
        fX11_readsLink_61 h8
      else
        (gx_fI h8 v0 9 9).bind fun x10 =>
        gx_bd (fX11_linkFrom v0 (609 : Int32) x10 h8) fun x12 h11 =>
        if x12 < 0 then
          (gx_fI h11 v0 9 9).bind fun x13 =>
          (gx_fR h11 v0 9 0).bind fun a14 =>
          (gx_aI 0 h11 a14 (609 : Int32)).bind fun x15 =>
          gx_bd (fX11_takesNumber v0 (0 : Int32) x15 h11) fun x17 h16 =>
          if x17 = 0 then
            fX11_readsLink_92 h16
          else
            (gx_fI h16 v0 9 9).bind fun x18 =>
            if x18 = x13 then
              fX11_readsLink_92 h16
            else
              (gx_fI h16 v0 9 9).bind fun x19 =>
              gx_bd (fX11_addsLink v0 (609 : Int32) x5 x13 x19 h16) fun u21 h20 =>
              gx_ret .boolean (1 : Int32) h20
        else
          fX11_readsLink_61 h11
set_option maxRecDepth 100000 in
set_option maxHeartbeats 4000000 in
theorem gX11_readsLink_22 {E : gx_Env} {d : Nat}  : ∀  (h : gx_H), gx_G E RX11 cX11_readsLink 3 (some .boolean) false (d + 3) 0 0 22 [none, none, none] [] h (fun x : Int32 => some (.int x)) (fX11_readsLink_22 h) := by
  intro  h
  unfold fX11_readsLink_22
  refine gx_iconst (0 : Int32) dX11_readsLink_22 (by decide) ?_
  exact gx_zret dX11_readsLink_23 rfl
set_option maxRecDepth 100000 in
set_option maxHeartbeats 4000000 in
theorem gX11_readsLink_61 {E : gx_Env} {d : Nat}  : ∀  (h : gx_H), gx_G E RX11 cX11_readsLink 3 (some .boolean) false (d + 3) 0 0 61 [none, none, none] [] h (fun x : Int32 => some (.int x)) (fX11_readsLink_61 h) := by
  intro  h
  unfold fX11_readsLink_61
  refine gx_iconst (0 : Int32) dX11_readsLink_61 (by decide) ?_
  exact gx_zret dX11_readsLink_62 rfl
set_option maxRecDepth 100000 in
set_option maxHeartbeats 4000000 in
theorem gX11_readsLink_92 {E : gx_Env} {d : Nat}  : ∀  (h : gx_H), gx_G E RX11 cX11_readsLink 3 (some .boolean) false (d + 3) 0 0 92 [none, none, none] [] h (fun x : Int32 => some (.int x)) (fX11_readsLink_92 h) := by
  intro  h
  unfold fX11_readsLink_92
  refine gx_iconst (0 : Int32) dX11_readsLink_92 (by decide) ?_
  exact gx_zret dX11_readsLink_93 rfl
set_option maxRecDepth 100000 in
set_option maxHeartbeats 4000000 in
theorem geX11_readsLink {E : gx_Env} {d : Nat} (v0 : Nat) (h : gx_H) : gx_G E RX11 cX11_readsLink 3 (some .boolean) false (d + 3) 0 0 0 [some (.ref v0), none, none] [] h (fun x : Int32 => some (.int x)) (fX11_readsLink v0 h) := by
  unfold fX11_readsLink
  refine gx_bind fun _ _ => ?_
  refine gx_aload_n 0 dX11_readsLink_0 rfl rfl ?_
  refine gx_getR kf_RX11_7 dX11_readsLink_1 (fun a1 => ?_)
  refine gx_sipush (611 : Int32) dX11_readsLink_4 (by decide) ?_
  refine gx_iald dX11_readsLink_7 (fun x2 => ?_)
  refine gx_bipush (6 : Int32) dX11_readsLink_8 (by decide) ?_
  refine gx_icmp_eq 22 dX11_readsLink_10 (by decide) (fun _ => ?_) (fun _ => ?_)
  · exact gx_sub (gX11_readsLink_22 h) True.intro
  · refine gx_aload_n 0 dX11_readsLink_13 rfl rfl ?_
    refine gx_iconst (0 : Int32) dX11_readsLink_14 (by decide) ?_
    refine gx_iconst (5 : Int32) dX11_readsLink_15 (by decide) ?_
    refine gx_callV (ci := 9) (bc := 0) (bs := 0) (mc := 0) (ms := 0) (em' := (fun x : Int32 => some (.int x))) [.int (0 : Int32), .int (5 : Int32)] kc_RX11_146 rfl dX11_readsLink_16 rfl rfl (gx_w8 rfl) (fun x q => (gx_isO_of (by unfold fX11_takesNumber at q; exact q)).2) (fun _ _ q => okX11_takesNumber d q) (fun x4 h3 => ?_)
    refine gx_if_ne 24 dX11_readsLink_19 (by decide) (fun _ => ?_) (fun _ => ?_)
    · refine gx_aload_n 0 dX11_readsLink_24 rfl rfl ?_
      refine gx_getI kf_RX11_139 dX11_readsLink_25 (fun x5 => ?_)
      refine gx_istore_n 1 [some (.ref v0), some (.int x5), none] dX11_readsLink_28 rfl (by decide) rfl ?_
      refine gx_aload_n 0 dX11_readsLink_29 rfl rfl ?_
      refine gx_iconst (1 : Int32) dX11_readsLink_30 (by decide) ?_
      refine gx_aload_n 0 dX11_readsLink_31 rfl rfl ?_
      refine gx_getR kf_RX11_7 dX11_readsLink_32 (fun a6 => ?_)
      refine gx_sipush (609 : Int32) dX11_readsLink_35 (by decide) ?_
      refine gx_iald dX11_readsLink_38 (fun x7 => ?_)
      refine gx_iconst (1 : Int32) dX11_readsLink_39 (by decide) ?_
      refine gx_isub dX11_readsLink_40 ?_
      refine gx_callV (ci := 9) (bc := 0) (bs := 0) (mc := 0) (ms := 0) (em' := (fun x : Int32 => some (.int x))) [.int (1 : Int32), .int (x7 - (1 : Int32))] kc_RX11_146 rfl dX11_readsLink_41 rfl rfl (gx_w8 rfl) (fun x q => (gx_isO_of (by unfold fX11_takesNumber at q; exact q)).2) (fun _ _ q => okX11_takesNumber d q) (fun x9 h8 => ?_)
      refine gx_if_eq 61 dX11_readsLink_44 (by decide) (fun _ => ?_) (fun _ => ?_)
      · exact gx_sub (gX11_readsLink_61 h8) True.intro
      · refine gx_aload_n 0 dX11_readsLink_47 rfl rfl ?_
        refine gx_sipush (609 : Int32) dX11_readsLink_48 (by decide) ?_
        refine gx_aload_n 0 dX11_readsLink_51 rfl rfl ?_
        refine gx_getI kf_RX11_139 dX11_readsLink_52 (fun x10 => ?_)
        refine gx_callV (ci := 9) (bc := 0) (bs := 0) (mc := 0) (ms := 0) (em' := (fun x : Int32 => some (.int x))) [.int (609 : Int32), .int x10] kc_RX11_65 rfl dX11_readsLink_55 rfl rfl (gx_w8 rfl) (fun x q => (gx_isO_of (by unfold fX11_linkFrom at q; exact q)).2) (fun _ _ q => okX11_linkFrom (d + 2) q) (fun x12 h11 => ?_)
        refine gx_if_lt 63 dX11_readsLink_58 (by decide) (fun _ => ?_) (fun _ => ?_)
        · refine gx_aload_n 0 dX11_readsLink_63 rfl rfl ?_
          refine gx_getI kf_RX11_139 dX11_readsLink_64 (fun x13 => ?_)
          refine gx_istore_n 2 [some (.ref v0), some (.int x5), some (.int x13)] dX11_readsLink_67 rfl (by decide) rfl ?_
          refine gx_aload_n 0 dX11_readsLink_68 rfl rfl ?_
          refine gx_iconst (0 : Int32) dX11_readsLink_69 (by decide) ?_
          refine gx_aload_n 0 dX11_readsLink_70 rfl rfl ?_
          refine gx_getR kf_RX11_7 dX11_readsLink_71 (fun a14 => ?_)
          refine gx_sipush (609 : Int32) dX11_readsLink_74 (by decide) ?_
          refine gx_iald dX11_readsLink_77 (fun x15 => ?_)
          refine gx_callV (ci := 9) (bc := 0) (bs := 0) (mc := 0) (ms := 0) (em' := (fun x : Int32 => some (.int x))) [.int (0 : Int32), .int x15] kc_RX11_146 rfl dX11_readsLink_78 rfl rfl (gx_w8 rfl) (fun x q => (gx_isO_of (by unfold fX11_takesNumber at q; exact q)).2) (fun _ _ q => okX11_takesNumber d q) (fun x17 h16 => ?_)
          refine gx_if_eq 92 dX11_readsLink_81 (by decide) (fun _ => ?_) (fun _ => ?_)
          · exact gx_sub (gX11_readsLink_92 h16) True.intro
          · refine gx_aload_n 0 dX11_readsLink_84 rfl rfl ?_
            refine gx_getI kf_RX11_139 dX11_readsLink_85 (fun x18 => ?_)
            refine gx_iload_n 2 dX11_readsLink_88 rfl rfl ?_
            refine gx_icmp_ne 94 dX11_readsLink_89 (by decide) (fun _ => ?_) (fun _ => ?_)
            · refine gx_aload_n 0 dX11_readsLink_94 rfl rfl ?_
              refine gx_sipush (609 : Int32) dX11_readsLink_95 (by decide) ?_
              refine gx_iload_n 1 dX11_readsLink_98 rfl rfl ?_
              refine gx_iload_n 2 dX11_readsLink_99 rfl rfl ?_
              refine gx_aload_n 0 dX11_readsLink_100 rfl rfl ?_
              refine gx_getI kf_RX11_139 dX11_readsLink_101 (fun x19 => ?_)
              refine gx_callV (ci := 9) (bc := 0) (bs := 0) (mc := 0) (ms := 0) (em' := (fun _ : Unit => none)) [.int (609 : Int32), .int x5, .int x13, .int x19] kc_RX11_101 rfl dX11_readsLink_104 rfl rfl (gx_w8 rfl) (fun x q => (gx_isO_of (by unfold fX11_addsLink at q; exact q)).2) (fun _ _ q => okX11_addsLink (d + 2) q) (fun u21 h20 => ?_)
              refine gx_iconst (1 : Int32) dX11_readsLink_107 (by decide) ?_
              exact gx_zret dX11_readsLink_108 rfl
            · exact gx_sub (gX11_readsLink_92 h16) True.intro
        · exact gx_sub (gX11_readsLink_61 h11) True.intro
    · exact gx_sub (gX11_readsLink_22 h3) True.intro
theorem okX11_readsLink {E : gx_Env} (d : Nat) {v0 : Nat} {h : gx_H} {r : Int32} {h1 : gx_H} (q : fX11_readsLink v0 h = some (r, h1)) : gx_M E yX11_readsLink cX11_readsLink 3 (some .boolean) (d + 3) 0 0 [.ref v0] h ((fun x : Int32 => some (.int x)) r) h1 := gx_meth (y := yX11_readsLink) (cc := cX11_readsLink) (nL := 3) (em := (fun x : Int32 => some (.int x))) (ini := false) [.ref v0] (by decide) (by simp [gx_sl]) (fun q => by cases q) (geX11_readsLink v0 h) q
theorem dX11_readsPlayer_0 : decode cX11_readsPlayer 0 = .ok (.aload_n 0, 1) := by decide +kernel
theorem dX11_readsPlayer_1 : decode cX11_readsPlayer 1 = .ok (.getfield 7, 3) := by decide +kernel
theorem dX11_readsPlayer_4 : decode cX11_readsPlayer 4 = .ok (.sipush 612, 3) := by decide +kernel
theorem dX11_readsPlayer_7 : decode cX11_readsPlayer 7 = .ok (.iaload, 1) := by decide +kernel
theorem dX11_readsPlayer_8 : decode cX11_readsPlayer 8 = .ok (.iconst 4, 1) := by decide +kernel
theorem dX11_readsPlayer_9 : decode cX11_readsPlayer 9 = .ok (.if_icmp .eq 12, 3) := by decide +kernel
theorem dX11_readsPlayer_12 : decode cX11_readsPlayer 12 = .ok (.aload_n 0, 1) := by decide +kernel
theorem dX11_readsPlayer_13 : decode cX11_readsPlayer 13 = .ok (.iconst 0, 1) := by decide +kernel
theorem dX11_readsPlayer_14 : decode cX11_readsPlayer 14 = .ok (.iconst 5, 1) := by decide +kernel
theorem dX11_readsPlayer_15 : decode cX11_readsPlayer 15 = .ok (.invokevirtual 146, 3) := by decide +kernel
theorem dX11_readsPlayer_18 : decode cX11_readsPlayer 18 = .ok (.ifCond .ne 5, 3) := by decide +kernel
theorem dX11_readsPlayer_21 : decode cX11_readsPlayer 21 = .ok (.iconst 0, 1) := by decide +kernel
theorem dX11_readsPlayer_22 : decode cX11_readsPlayer 22 = .ok (.ireturn, 1) := by decide +kernel
theorem dX11_readsPlayer_23 : decode cX11_readsPlayer 23 = .ok (.aload_n 0, 1) := by decide +kernel
theorem dX11_readsPlayer_24 : decode cX11_readsPlayer 24 = .ok (.sipush 609, 3) := by decide +kernel
theorem dX11_readsPlayer_27 : decode cX11_readsPlayer 27 = .ok (.aload_n 0, 1) := by decide +kernel
theorem dX11_readsPlayer_28 : decode cX11_readsPlayer 28 = .ok (.getfield 139, 3) := by decide +kernel
theorem dX11_readsPlayer_31 : decode cX11_readsPlayer 31 = .ok (.invokevirtual 105, 3) := by decide +kernel
theorem dX11_readsPlayer_34 : decode cX11_readsPlayer 34 = .ok (.iconst 1, 1) := by decide +kernel
theorem dX11_readsPlayer_35 : decode cX11_readsPlayer 35 = .ok (.ireturn, 1) := by decide +kernel
def fX11_readsPlayer_21 (h : gx_H) : Option (Int32 × gx_H) :=
  gx_ret .boolean (0 : Int32) h
def fX11_readsPlayer (v0 : Nat) (h : gx_H) : Option (Int32 × gx_H) :=
  (gx_isO h v0 9).bind fun _ =>
  (gx_fR h v0 9 0).bind fun a1 =>
  (gx_aI 0 h a1 (612 : Int32)).bind fun x2 =>
  if x2 = (4 : Int32) then
    fX11_readsPlayer_21 h
  else
    gx_bd (fX11_takesNumber v0 (0 : Int32) (5 : Int32) h) fun x4 h3 =>
    if x4 = 0 then
      fX11_readsPlayer_21 h3
    else
      (gx_fI h3 v0 9 9).bind fun x5 =>
      gx_bd (fX11_addsPlayer v0 (609 : Int32) x5 h3) fun u7 h6 =>
      gx_ret .boolean (1 : Int32) h6
set_option maxRecDepth 100000 in
set_option maxHeartbeats 4000000 in
theorem gX11_readsPlayer_21 {E : gx_Env} {d : Nat}  : ∀  (h : gx_H), gx_G E RX11 cX11_readsPlayer 1 (some .boolean) false (d + 3) 0 0 21 [none] [] h (fun x : Int32 => some (.int x)) (fX11_readsPlayer_21 h) := by
  intro  h
  unfold fX11_readsPlayer_21
  refine gx_iconst (0 : Int32) dX11_readsPlayer_21 (by decide) ?_
  exact gx_zret dX11_readsPlayer_22 rfl
set_option maxRecDepth 100000 in
set_option maxHeartbeats 4000000 in
theorem geX11_readsPlayer {E : gx_Env} {d : Nat} (v0 : Nat) (h : gx_H) : gx_G E RX11 cX11_readsPlayer 1 (some .boolean) false (d + 3) 0 0 0 [some (.ref v0)] [] h (fun x : Int32 => some (.int x)) (fX11_readsPlayer v0 h) := by
  unfold fX11_readsPlayer
  refine gx_bind fun _ _ => ?_
  refine gx_aload_n 0 dX11_readsPlayer_0 rfl rfl ?_
  refine gx_getR kf_RX11_7 dX11_readsPlayer_1 (fun a1 => ?_)
  refine gx_sipush (612 : Int32) dX11_readsPlayer_4 (by decide) ?_
  refine gx_iald dX11_readsPlayer_7 (fun x2 => ?_)
  refine gx_iconst (4 : Int32) dX11_readsPlayer_8 (by decide) ?_
  refine gx_icmp_eq 21 dX11_readsPlayer_9 (by decide) (fun _ => ?_) (fun _ => ?_)
  · exact gx_sub (gX11_readsPlayer_21 h) True.intro
  · refine gx_aload_n 0 dX11_readsPlayer_12 rfl rfl ?_
    refine gx_iconst (0 : Int32) dX11_readsPlayer_13 (by decide) ?_
    refine gx_iconst (5 : Int32) dX11_readsPlayer_14 (by decide) ?_
    refine gx_callV (ci := 9) (bc := 0) (bs := 0) (mc := 0) (ms := 0) (em' := (fun x : Int32 => some (.int x))) [.int (0 : Int32), .int (5 : Int32)] kc_RX11_146 rfl dX11_readsPlayer_15 rfl rfl (gx_w8 rfl) (fun x q => (gx_isO_of (by unfold fX11_takesNumber at q; exact q)).2) (fun _ _ q => okX11_takesNumber d q) (fun x4 h3 => ?_)
    refine gx_if_ne 23 dX11_readsPlayer_18 (by decide) (fun _ => ?_) (fun _ => ?_)
    · refine gx_aload_n 0 dX11_readsPlayer_23 rfl rfl ?_
      refine gx_sipush (609 : Int32) dX11_readsPlayer_24 (by decide) ?_
      refine gx_aload_n 0 dX11_readsPlayer_27 rfl rfl ?_
      refine gx_getI kf_RX11_139 dX11_readsPlayer_28 (fun x5 => ?_)
      refine gx_callV (ci := 9) (bc := 0) (bs := 0) (mc := 0) (ms := 0) (em' := (fun _ : Unit => none)) [.int (609 : Int32), .int x5] kc_RX11_105 rfl dX11_readsPlayer_31 rfl rfl (gx_w8 rfl) (fun x q => (gx_isO_of (by unfold fX11_addsPlayer at q; exact q)).2) (fun _ _ q => okX11_addsPlayer (d + 2) q) (fun u7 h6 => ?_)
      refine gx_iconst (1 : Int32) dX11_readsPlayer_34 (by decide) ?_
      exact gx_zret dX11_readsPlayer_35 rfl
    · exact gx_sub (gX11_readsPlayer_21 h3) True.intro
theorem okX11_readsPlayer {E : gx_Env} (d : Nat) {v0 : Nat} {h : gx_H} {r : Int32} {h1 : gx_H} (q : fX11_readsPlayer v0 h = some (r, h1)) : gx_M E yX11_readsPlayer cX11_readsPlayer 1 (some .boolean) (d + 3) 0 0 [.ref v0] h ((fun x : Int32 => some (.int x)) r) h1 := gx_meth (y := yX11_readsPlayer) (cc := cX11_readsPlayer) (nL := 1) (em := (fun x : Int32 => some (.int x))) (ini := false) [.ref v0] (by decide) (by simp [gx_sl]) (fun q => by cases q) (geX11_readsPlayer v0 h) q
theorem dX11_readsSet_0 : decode cX11_readsSet 0 = .ok (.aload_n 0, 1) := by decide +kernel
theorem dX11_readsSet_1 : decode cX11_readsSet 1 = .ok (.iconst 0, 1) := by decide +kernel
theorem dX11_readsSet_2 : decode cX11_readsSet 2 = .ok (.aload_n 0, 1) := by decide +kernel
theorem dX11_readsSet_3 : decode cX11_readsSet 3 = .ok (.getfield 7, 3) := by decide +kernel
theorem dX11_readsSet_6 : decode cX11_readsSet 6 = .ok (.sipush 612, 3) := by decide +kernel
theorem dX11_readsSet_9 : decode cX11_readsSet 9 = .ok (.iaload, 1) := by decide +kernel
theorem dX11_readsSet_10 : decode cX11_readsSet 10 = .ok (.iconst 1, 1) := by decide +kernel
theorem dX11_readsSet_11 : decode cX11_readsSet 11 = .ok (.isub, 1) := by decide +kernel
theorem dX11_readsSet_12 : decode cX11_readsSet 12 = .ok (.invokevirtual 146, 3) := by decide +kernel
theorem dX11_readsSet_15 : decode cX11_readsSet 15 = .ok (.ifCond .ne 5, 3) := by decide +kernel
theorem dX11_readsSet_18 : decode cX11_readsSet 18 = .ok (.iconst 0, 1) := by decide +kernel
theorem dX11_readsSet_19 : decode cX11_readsSet 19 = .ok (.ireturn, 1) := by decide +kernel
theorem dX11_readsSet_20 : decode cX11_readsSet 20 = .ok (.aload_n 0, 1) := by decide +kernel
theorem dX11_readsSet_21 : decode cX11_readsSet 21 = .ok (.getfield 139, 3) := by decide +kernel
theorem dX11_readsSet_24 : decode cX11_readsSet 24 = .ok (.istore_n 1, 1) := by decide +kernel
theorem dX11_readsSet_25 : decode cX11_readsSet 25 = .ok (.aload_n 0, 1) := by decide +kernel
theorem dX11_readsSet_26 : decode cX11_readsSet 26 = .ok (.iconst 0, 1) := by decide +kernel
theorem dX11_readsSet_27 : decode cX11_readsSet 27 = .ok (.aload_n 0, 1) := by decide +kernel
theorem dX11_readsSet_28 : decode cX11_readsSet 28 = .ok (.getfield 7, 3) := by decide +kernel
theorem dX11_readsSet_31 : decode cX11_readsSet 31 = .ok (.sipush 609, 3) := by decide +kernel
theorem dX11_readsSet_34 : decode cX11_readsSet 34 = .ok (.iaload, 1) := by decide +kernel
theorem dX11_readsSet_35 : decode cX11_readsSet 35 = .ok (.invokevirtual 146, 3) := by decide +kernel
theorem dX11_readsSet_38 : decode cX11_readsSet 38 = .ok (.ifCond .ne 5, 3) := by decide +kernel
theorem dX11_readsSet_41 : decode cX11_readsSet 41 = .ok (.iconst 0, 1) := by decide +kernel
theorem dX11_readsSet_42 : decode cX11_readsSet 42 = .ok (.ireturn, 1) := by decide +kernel
theorem dX11_readsSet_43 : decode cX11_readsSet 43 = .ok (.aload_n 0, 1) := by decide +kernel
theorem dX11_readsSet_44 : decode cX11_readsSet 44 = .ok (.getfield 7, 3) := by decide +kernel
theorem dX11_readsSet_47 : decode cX11_readsSet 47 = .ok (.sipush 641, 3) := by decide +kernel
theorem dX11_readsSet_50 : decode cX11_readsSet 50 = .ok (.iload_n 1, 1) := by decide +kernel
theorem dX11_readsSet_51 : decode cX11_readsSet 51 = .ok (.iadd, 1) := by decide +kernel
theorem dX11_readsSet_52 : decode cX11_readsSet 52 = .ok (.aload_n 0, 1) := by decide +kernel
theorem dX11_readsSet_53 : decode cX11_readsSet 53 = .ok (.getfield 139, 3) := by decide +kernel
theorem dX11_readsSet_56 : decode cX11_readsSet 56 = .ok (.iastore, 1) := by decide +kernel
theorem dX11_readsSet_57 : decode cX11_readsSet 57 = .ok (.iconst 1, 1) := by decide +kernel
theorem dX11_readsSet_58 : decode cX11_readsSet 58 = .ok (.ireturn, 1) := by decide +kernel
def fX11_readsSet (v0 : Nat) (h : gx_H) : Option (Int32 × gx_H) :=
  (gx_isO h v0 9).bind fun _ =>
  (gx_fR h v0 9 0).bind fun a1 =>
  (gx_aI 0 h a1 (612 : Int32)).bind fun x2 =>
  gx_bd (fX11_takesNumber v0 (0 : Int32) (x2 - (1 : Int32)) h) fun x4 h3 =>
  if x4 = 0 then
    gx_ret .boolean (0 : Int32) h3
  else
    (gx_fI h3 v0 9 9).bind fun x5 =>
    (gx_fR h3 v0 9 0).bind fun a6 =>
    (gx_aI 0 h3 a6 (609 : Int32)).bind fun x7 =>
    gx_bd (fX11_takesNumber v0 (0 : Int32) x7 h3) fun x9 h8 =>
    if x9 = 0 then
      gx_ret .boolean (0 : Int32) h8
    else
      (gx_fR h8 v0 9 0).bind fun a10 =>
      (gx_fI h8 v0 9 9).bind fun x11 =>
      (gx_sI 0 h8 a10 ((641 : Int32) + x5) x11).bind fun h12 =>
      gx_ret .boolean (1 : Int32) h12
set_option maxRecDepth 100000 in
set_option maxHeartbeats 4000000 in
theorem geX11_readsSet {E : gx_Env} {d : Nat} (v0 : Nat) (h : gx_H) : gx_G E RX11 cX11_readsSet 2 (some .boolean) false (d + 3) 0 0 0 [some (.ref v0), none] [] h (fun x : Int32 => some (.int x)) (fX11_readsSet v0 h) := by
  unfold fX11_readsSet
  refine gx_bind fun _ _ => ?_
  refine gx_aload_n 0 dX11_readsSet_0 rfl rfl ?_
  refine gx_iconst (0 : Int32) dX11_readsSet_1 (by decide) ?_
  refine gx_aload_n 0 dX11_readsSet_2 rfl rfl ?_
  refine gx_getR kf_RX11_7 dX11_readsSet_3 (fun a1 => ?_)
  refine gx_sipush (612 : Int32) dX11_readsSet_6 (by decide) ?_
  refine gx_iald dX11_readsSet_9 (fun x2 => ?_)
  refine gx_iconst (1 : Int32) dX11_readsSet_10 (by decide) ?_
  refine gx_isub dX11_readsSet_11 ?_
  refine gx_callV (ci := 9) (bc := 0) (bs := 0) (mc := 0) (ms := 0) (em' := (fun x : Int32 => some (.int x))) [.int (0 : Int32), .int (x2 - (1 : Int32))] kc_RX11_146 rfl dX11_readsSet_12 rfl rfl (gx_w8 rfl) (fun x q => (gx_isO_of (by unfold fX11_takesNumber at q; exact q)).2) (fun _ _ q => okX11_takesNumber d q) (fun x4 h3 => ?_)
  refine gx_if_ne 20 dX11_readsSet_15 (by decide) (fun _ => ?_) (fun _ => ?_)
  · refine gx_aload_n 0 dX11_readsSet_20 rfl rfl ?_
    refine gx_getI kf_RX11_139 dX11_readsSet_21 (fun x5 => ?_)
    refine gx_istore_n 1 [some (.ref v0), some (.int x5)] dX11_readsSet_24 rfl (by decide) rfl ?_
    refine gx_aload_n 0 dX11_readsSet_25 rfl rfl ?_
    refine gx_iconst (0 : Int32) dX11_readsSet_26 (by decide) ?_
    refine gx_aload_n 0 dX11_readsSet_27 rfl rfl ?_
    refine gx_getR kf_RX11_7 dX11_readsSet_28 (fun a6 => ?_)
    refine gx_sipush (609 : Int32) dX11_readsSet_31 (by decide) ?_
    refine gx_iald dX11_readsSet_34 (fun x7 => ?_)
    refine gx_callV (ci := 9) (bc := 0) (bs := 0) (mc := 0) (ms := 0) (em' := (fun x : Int32 => some (.int x))) [.int (0 : Int32), .int x7] kc_RX11_146 rfl dX11_readsSet_35 rfl rfl (gx_w8 rfl) (fun x q => (gx_isO_of (by unfold fX11_takesNumber at q; exact q)).2) (fun _ _ q => okX11_takesNumber d q) (fun x9 h8 => ?_)
    refine gx_if_ne 43 dX11_readsSet_38 (by decide) (fun _ => ?_) (fun _ => ?_)
    · refine gx_aload_n 0 dX11_readsSet_43 rfl rfl ?_
      refine gx_getR kf_RX11_7 dX11_readsSet_44 (fun a10 => ?_)
      refine gx_sipush (641 : Int32) dX11_readsSet_47 (by decide) ?_
      refine gx_iload_n 1 dX11_readsSet_50 rfl rfl ?_
      refine gx_iadd dX11_readsSet_51 ?_
      refine gx_aload_n 0 dX11_readsSet_52 rfl rfl ?_
      refine gx_getI kf_RX11_139 dX11_readsSet_53 (fun x11 => ?_)
      refine gx_iast dX11_readsSet_56 (fun h12 => ?_)
      refine gx_iconst (1 : Int32) dX11_readsSet_57 (by decide) ?_
      exact gx_zret dX11_readsSet_58 rfl
    · refine gx_iconst (0 : Int32) dX11_readsSet_41 (by decide) ?_
      exact gx_zret dX11_readsSet_42 rfl
  · refine gx_iconst (0 : Int32) dX11_readsSet_18 (by decide) ?_
    exact gx_zret dX11_readsSet_19 rfl
theorem okX11_readsSet {E : gx_Env} (d : Nat) {v0 : Nat} {h : gx_H} {r : Int32} {h1 : gx_H} (q : fX11_readsSet v0 h = some (r, h1)) : gx_M E yX11_readsSet cX11_readsSet 2 (some .boolean) (d + 3) 0 0 [.ref v0] h ((fun x : Int32 => some (.int x)) r) h1 := gx_meth (y := yX11_readsSet) (cc := cX11_readsSet) (nL := 2) (em := (fun x : Int32 => some (.int x))) (ini := false) [.ref v0] (by decide) (by simp [gx_sl]) (fun q => by cases q) (geX11_readsSet v0 h) q
theorem dX11_readsThrows_0 : decode cX11_readsThrows 0 = .ok (.aload_n 0, 1) := by decide +kernel
theorem dX11_readsThrows_1 : decode cX11_readsThrows 1 = .ok (.iconst 0, 1) := by decide +kernel
theorem dX11_readsThrows_2 : decode cX11_readsThrows 2 = .ok (.aload_n 0, 1) := by decide +kernel
theorem dX11_readsThrows_3 : decode cX11_readsThrows 3 = .ok (.getfield 7, 3) := by decide +kernel
theorem dX11_readsThrows_6 : decode cX11_readsThrows 6 = .ok (.sipush 612, 3) := by decide +kernel
theorem dX11_readsThrows_9 : decode cX11_readsThrows 9 = .ok (.iaload, 1) := by decide +kernel
theorem dX11_readsThrows_10 : decode cX11_readsThrows 10 = .ok (.iconst 1, 1) := by decide +kernel
theorem dX11_readsThrows_11 : decode cX11_readsThrows 11 = .ok (.isub, 1) := by decide +kernel
theorem dX11_readsThrows_12 : decode cX11_readsThrows 12 = .ok (.invokevirtual 146, 3) := by decide +kernel
theorem dX11_readsThrows_15 : decode cX11_readsThrows 15 = .ok (.ifCond .ne 5, 3) := by decide +kernel
theorem dX11_readsThrows_18 : decode cX11_readsThrows 18 = .ok (.iconst 0, 1) := by decide +kernel
theorem dX11_readsThrows_19 : decode cX11_readsThrows 19 = .ok (.ireturn, 1) := by decide +kernel
theorem dX11_readsThrows_20 : decode cX11_readsThrows 20 = .ok (.aload_n 0, 1) := by decide +kernel
theorem dX11_readsThrows_21 : decode cX11_readsThrows 21 = .ok (.getfield 139, 3) := by decide +kernel
theorem dX11_readsThrows_24 : decode cX11_readsThrows 24 = .ok (.istore_n 1, 1) := by decide +kernel
theorem dX11_readsThrows_25 : decode cX11_readsThrows 25 = .ok (.iconst 0, 1) := by decide +kernel
theorem dX11_readsThrows_26 : decode cX11_readsThrows 26 = .ok (.istore_n 2, 1) := by decide +kernel
theorem dX11_readsThrows_27 : decode cX11_readsThrows 27 = .ok (.iconst 1, 1) := by decide +kernel
theorem dX11_readsThrows_28 : decode cX11_readsThrows 28 = .ok (.istore_n 3, 1) := by decide +kernel
theorem dX11_readsThrows_29 : decode cX11_readsThrows 29 = .ok (.iload_n 3, 1) := by decide +kernel
theorem dX11_readsThrows_30 : decode cX11_readsThrows 30 = .ok (.ifCond .eq 79, 3) := by decide +kernel
theorem dX11_readsThrows_33 : decode cX11_readsThrows 33 = .ok (.iload_n 2, 1) := by decide +kernel
theorem dX11_readsThrows_34 : decode cX11_readsThrows 34 = .ok (.bipush 9, 2) := by decide +kernel
theorem dX11_readsThrows_36 : decode cX11_readsThrows 36 = .ok (.if_icmp .eq 30, 3) := by decide +kernel
theorem dX11_readsThrows_39 : decode cX11_readsThrows 39 = .ok (.aload_n 0, 1) := by decide +kernel
theorem dX11_readsThrows_40 : decode cX11_readsThrows 40 = .ok (.iconst 1, 1) := by decide +kernel
theorem dX11_readsThrows_41 : decode cX11_readsThrows 41 = .ok (.aload_n 0, 1) := by decide +kernel
theorem dX11_readsThrows_42 : decode cX11_readsThrows 42 = .ok (.getfield 7, 3) := by decide +kernel
theorem dX11_readsThrows_45 : decode cX11_readsThrows 45 = .ok (.sipush 610, 3) := by decide +kernel
theorem dX11_readsThrows_48 : decode cX11_readsThrows 48 = .ok (.iaload, 1) := by decide +kernel
theorem dX11_readsThrows_49 : decode cX11_readsThrows 49 = .ok (.invokevirtual 146, 3) := by decide +kernel
theorem dX11_readsThrows_52 : decode cX11_readsThrows 52 = .ok (.ifCond .eq 14, 3) := by decide +kernel
theorem dX11_readsThrows_55 : decode cX11_readsThrows 55 = .ok (.aload_n 0, 1) := by decide +kernel
theorem dX11_readsThrows_56 : decode cX11_readsThrows 56 = .ok (.sipush 609, 3) := by decide +kernel
theorem dX11_readsThrows_59 : decode cX11_readsThrows 59 = .ok (.iload_n 1, 1) := by decide +kernel
theorem dX11_readsThrows_60 : decode cX11_readsThrows 60 = .ok (.invokevirtual 57, 3) := by decide +kernel
theorem dX11_readsThrows_63 : decode cX11_readsThrows 63 = .ok (.ifCond .eq 5, 3) := by decide +kernel
theorem dX11_readsThrows_66 : decode cX11_readsThrows 66 = .ok (.iconst 0, 1) := by decide +kernel
theorem dX11_readsThrows_67 : decode cX11_readsThrows 67 = .ok (.ireturn, 1) := by decide +kernel
theorem dX11_readsThrows_68 : decode cX11_readsThrows 68 = .ok (.aload_n 0, 1) := by decide +kernel
theorem dX11_readsThrows_69 : decode cX11_readsThrows 69 = .ok (.sipush 609, 3) := by decide +kernel
theorem dX11_readsThrows_72 : decode cX11_readsThrows 72 = .ok (.iload_n 1, 1) := by decide +kernel
theorem dX11_readsThrows_73 : decode cX11_readsThrows 73 = .ok (.aload_n 0, 1) := by decide +kernel
theorem dX11_readsThrows_74 : decode cX11_readsThrows 74 = .ok (.getfield 139, 3) := by decide +kernel
theorem dX11_readsThrows_77 : decode cX11_readsThrows 77 = .ok (.invokevirtual 149, 3) := by decide +kernel
theorem dX11_readsThrows_80 : decode cX11_readsThrows 80 = .ok (.iinc 2 1, 3) := by decide +kernel
theorem dX11_readsThrows_83 : decode cX11_readsThrows 83 = .ok (.aload_n 0, 1) := by decide +kernel
theorem dX11_readsThrows_84 : decode cX11_readsThrows 84 = .ok (.invokevirtual 124, 3) := by decide +kernel
theorem dX11_readsThrows_87 : decode cX11_readsThrows 87 = .ok (.aload_n 0, 1) := by decide +kernel
theorem dX11_readsThrows_88 : decode cX11_readsThrows 88 = .ok (.aload_n 0, 1) := by decide +kernel
theorem dX11_readsThrows_89 : decode cX11_readsThrows 89 = .ok (.getfield 115, 3) := by decide +kernel
theorem dX11_readsThrows_92 : decode cX11_readsThrows 92 = .ok (.invokevirtual 118, 3) := by decide +kernel
theorem dX11_readsThrows_95 : decode cX11_readsThrows 95 = .ok (.bipush 59, 2) := by decide +kernel
theorem dX11_readsThrows_97 : decode cX11_readsThrows 97 = .ok (.if_icmp .eq 7, 3) := by decide +kernel
theorem dX11_readsThrows_100 : decode cX11_readsThrows 100 = .ok (.iconst 1, 1) := by decide +kernel
theorem dX11_readsThrows_101 : decode cX11_readsThrows 101 = .ok (.goto 4, 3) := by decide +kernel
theorem dX11_readsThrows_104 : decode cX11_readsThrows 104 = .ok (.iconst 0, 1) := by decide +kernel
theorem dX11_readsThrows_105 : decode cX11_readsThrows 105 = .ok (.istore_n 3, 1) := by decide +kernel
theorem dX11_readsThrows_106 : decode cX11_readsThrows 106 = .ok (.goto (-77), 3) := by decide +kernel
theorem dX11_readsThrows_109 : decode cX11_readsThrows 109 = .ok (.iconst 1, 1) := by decide +kernel
theorem dX11_readsThrows_110 : decode cX11_readsThrows 110 = .ok (.ireturn, 1) := by decide +kernel
def fX11_readsThrows_66 (h : gx_H) : Option (Int32 × gx_H) :=
  gx_ret .boolean (0 : Int32) h
def fX11_readsThrows_105 (k29 : Nat → Int32 → Int32 → Int32 → gx_H → Option (Int32 × gx_H)) (v0 : Nat) (v1 : Int32) (v2 : Int32) (s0 : Int32) (h : gx_H) : Option (Int32 × gx_H) :=
  k29 v0 v1 v2 s0 h
def bX11_readsThrows_29 (k29 : Nat → Int32 → Int32 → Int32 → gx_H → Option (Int32 × gx_H)) (v0 : Nat) (v1 : Int32) (v2 : Int32) (v3 : Int32) (h : gx_H) : Option (Int32 × gx_H) :=
  if v3 = 0 then
    gx_ret .boolean (1 : Int32) h
  else
    if v2 = (9 : Int32) then
      fX11_readsThrows_66 h
    else
      (gx_fR h v0 9 0).bind fun a6 =>
      (gx_aI 0 h a6 (610 : Int32)).bind fun x7 =>
      gx_bd (fX11_takesNumber v0 (1 : Int32) x7 h) fun x9 h8 =>
      if x9 = 0 then
        fX11_readsThrows_66 h8
      else
        gx_bd (fX11_isHome v0 (609 : Int32) v1 h8) fun x11 h10 =>
        if x11 = 0 then
          (gx_fI h10 v0 9 9).bind fun x12 =>
          gx_bd (fX11_throwsOne v0 (609 : Int32) v1 x12 h10) fun u14 h13 =>
          gx_bd (fX11_blanks v0 h13) fun u16 h15 =>
          (gx_fI h15 v0 9 7).bind fun x17 =>
          gx_bd (fX11_byteAt v0 x17 h15) fun x19 h18 =>
          if x19 = (59 : Int32) then
            fX11_readsThrows_105 k29 v0 v1 (v2 + (1 : Int32)) (0 : Int32) h18
          else
            fX11_readsThrows_105 k29 v0 v1 (v2 + (1 : Int32)) (1 : Int32) h18
        else
          fX11_readsThrows_66 h10
def fX11_readsThrows_29 : Nat → Nat → Int32 → Int32 → Int32 → gx_H → Option (Int32 × gx_H)
  | 0 => fun _ _ _ _ _ => none
  | n + 1 => bX11_readsThrows_29 (fX11_readsThrows_29 n)
def fX11_readsThrows (v0 : Nat) (h : gx_H) : Option (Int32 × gx_H) :=
  (gx_isO h v0 9).bind fun _ =>
  (gx_fR h v0 9 0).bind fun a1 =>
  (gx_aI 0 h a1 (612 : Int32)).bind fun x2 =>
  gx_bd (fX11_takesNumber v0 (0 : Int32) (x2 - (1 : Int32)) h) fun x4 h3 =>
  if x4 = 0 then
    gx_ret .boolean (0 : Int32) h3
  else
    (gx_fI h3 v0 9 9).bind fun x5 =>
    fX11_readsThrows_29 gx_N v0 x5 (0 : Int32) (1 : Int32) h3
set_option maxRecDepth 100000 in
set_option maxHeartbeats 4000000 in
theorem gX11_readsThrows_66 {E : gx_Env} {d : Nat}  : ∀  (h : gx_H), gx_G E RX11 cX11_readsThrows 4 (some .boolean) false (d + 4) 0 0 66 [none, none, none, none] [] h (fun x : Int32 => some (.int x)) (fX11_readsThrows_66 h) := by
  intro  h
  unfold fX11_readsThrows_66
  refine gx_iconst (0 : Int32) dX11_readsThrows_66 (by decide) ?_
  exact gx_zret dX11_readsThrows_67 rfl
set_option maxRecDepth 100000 in
set_option maxHeartbeats 4000000 in
theorem gX11_readsThrows_105 {E : gx_Env} {d : Nat} (k29 : Nat → Int32 → Int32 → Int32 → gx_H → Option (Int32 × gx_H)) (hk29 : ∀ (v0 : Nat) (v1 : Int32) (v2 : Int32) (v3 : Int32) (h : gx_H), gx_G E RX11 cX11_readsThrows 4 (some .boolean) false (d + 4) 0 0 29 [some (.ref v0), some (.int v1), some (.int v2), some (.int v3)] [] h (fun x : Int32 => some (.int x)) (k29 v0 v1 v2 v3 h))  : ∀ (v0 : Nat) (v1 : Int32) (v2 : Int32) (s0 : Int32) (h : gx_H), gx_G E RX11 cX11_readsThrows 4 (some .boolean) false (d + 4) 0 0 105 [some (.ref v0), some (.int v1), some (.int v2), none] [.int s0] h (fun x : Int32 => some (.int x)) (fX11_readsThrows_105 k29 v0 v1 v2 s0 h) := by
  intro v0 v1 v2 s0 h
  unfold fX11_readsThrows_105
  refine gx_istore_n 3 [some (.ref v0), some (.int v1), some (.int v2), some (.int s0)] dX11_readsThrows_105 rfl (by decide) rfl ?_
  refine gx_goto 29 dX11_readsThrows_106 (by decide) ?_
  exact gx_sub (hk29 v0 v1 v2 s0 h) (And.intro rfl (And.intro rfl (And.intro rfl (And.intro rfl True.intro))))
set_option maxRecDepth 100000 in
set_option maxHeartbeats 4000000 in
theorem gbX11_readsThrows_29 {E : gx_Env} {d : Nat}  (k29 : Nat → Int32 → Int32 → Int32 → gx_H → Option (Int32 × gx_H)) (hk29 : ∀ (v0 : Nat) (v1 : Int32) (v2 : Int32) (v3 : Int32) (h : gx_H), gx_G E RX11 cX11_readsThrows 4 (some .boolean) false (d + 4) 0 0 29 [some (.ref v0), some (.int v1), some (.int v2), some (.int v3)] [] h (fun x : Int32 => some (.int x)) (k29 v0 v1 v2 v3 h))  : ∀ (v0 : Nat) (v1 : Int32) (v2 : Int32) (v3 : Int32) (h : gx_H), gx_G E RX11 cX11_readsThrows 4 (some .boolean) false (d + 4) 0 0 29 [some (.ref v0), some (.int v1), some (.int v2), some (.int v3)] [] h (fun x : Int32 => some (.int x)) (bX11_readsThrows_29 k29 v0 v1 v2 v3 h) := by
  intro v0 v1 v2 v3 h
  unfold bX11_readsThrows_29
  refine gx_iload_n 3 dX11_readsThrows_29 rfl rfl ?_
  refine gx_if_eq 109 dX11_readsThrows_30 (by decide) (fun _ => ?_) (fun _ => ?_)
  · refine gx_iconst (1 : Int32) dX11_readsThrows_109 (by decide) ?_
    exact gx_zret dX11_readsThrows_110 rfl
  · refine gx_iload_n 2 dX11_readsThrows_33 rfl rfl ?_
    refine gx_bipush (9 : Int32) dX11_readsThrows_34 (by decide) ?_
    refine gx_icmp_eq 66 dX11_readsThrows_36 (by decide) (fun _ => ?_) (fun _ => ?_)
    · exact gx_sub (gX11_readsThrows_66 h) True.intro
    · refine gx_aload_n 0 dX11_readsThrows_39 rfl rfl ?_
      refine gx_iconst (1 : Int32) dX11_readsThrows_40 (by decide) ?_
      refine gx_aload_n 0 dX11_readsThrows_41 rfl rfl ?_
      refine gx_getR kf_RX11_7 dX11_readsThrows_42 (fun a6 => ?_)
      refine gx_sipush (610 : Int32) dX11_readsThrows_45 (by decide) ?_
      refine gx_iald dX11_readsThrows_48 (fun x7 => ?_)
      refine gx_callV (ci := 9) (bc := 0) (bs := 0) (mc := 0) (ms := 0) (em' := (fun x : Int32 => some (.int x))) [.int (1 : Int32), .int x7] kc_RX11_146 rfl dX11_readsThrows_49 rfl rfl (gx_w8 rfl) (fun x q => (gx_isO_of (by unfold fX11_takesNumber at q; exact q)).2) (fun _ _ q => okX11_takesNumber (d + 1) q) (fun x9 h8 => ?_)
      refine gx_if_eq 66 dX11_readsThrows_52 (by decide) (fun _ => ?_) (fun _ => ?_)
      · exact gx_sub (gX11_readsThrows_66 h8) True.intro
      · refine gx_aload_n 0 dX11_readsThrows_55 rfl rfl ?_
        refine gx_sipush (609 : Int32) dX11_readsThrows_56 (by decide) ?_
        refine gx_iload_n 1 dX11_readsThrows_59 rfl rfl ?_
        refine gx_callV (ci := 9) (bc := 0) (bs := 0) (mc := 0) (ms := 0) (em' := (fun x : Int32 => some (.int x))) [.int (609 : Int32), .int v1] kc_RX11_57 rfl dX11_readsThrows_60 rfl rfl (gx_w8 rfl) (fun x q => (gx_isO_of (by unfold fX11_isHome at q; exact q)).2) (fun _ _ q => okX11_isHome (d + 3) q) (fun x11 h10 => ?_)
        refine gx_if_eq 68 dX11_readsThrows_63 (by decide) (fun _ => ?_) (fun _ => ?_)
        · refine gx_aload_n 0 dX11_readsThrows_68 rfl rfl ?_
          refine gx_sipush (609 : Int32) dX11_readsThrows_69 (by decide) ?_
          refine gx_iload_n 1 dX11_readsThrows_72 rfl rfl ?_
          refine gx_aload_n 0 dX11_readsThrows_73 rfl rfl ?_
          refine gx_getI kf_RX11_139 dX11_readsThrows_74 (fun x12 => ?_)
          refine gx_callV (ci := 9) (bc := 0) (bs := 0) (mc := 0) (ms := 0) (em' := (fun _ : Unit => none)) [.int (609 : Int32), .int v1, .int x12] kc_RX11_149 rfl dX11_readsThrows_77 rfl rfl (gx_w8 rfl) (fun x q => (gx_isO_of (by unfold fX11_throwsOne at q; exact q)).2) (fun _ _ q => okX11_throwsOne d q) (fun u14 h13 => ?_)
          refine gx_iinc (1 : Int32) [some (.ref v0), some (.int v1), some (.int (v2 + (1 : Int32))), some (.int v3)] dX11_readsThrows_80 rfl (by decide) (by decide) rfl ?_
          refine gx_aload_n 0 dX11_readsThrows_83 rfl rfl ?_
          refine gx_callV (ci := 9) (bc := 0) (bs := 0) (mc := 0) (ms := 0) (em' := (fun _ : Unit => none)) [] kc_RX11_124 rfl dX11_readsThrows_84 rfl rfl (gx_w8 rfl) (fun x q => (gx_isO_of (by unfold fX11_blanks at q; exact q)).2) (fun _ _ q => okX11_blanks (d + 2) q) (fun u16 h15 => ?_)
          refine gx_aload_n 0 dX11_readsThrows_87 rfl rfl ?_
          refine gx_aload_n 0 dX11_readsThrows_88 rfl rfl ?_
          refine gx_getI kf_RX11_115 dX11_readsThrows_89 (fun x17 => ?_)
          refine gx_callV (ci := 9) (bc := 0) (bs := 0) (mc := 0) (ms := 0) (em' := (fun x : Int32 => some (.int x))) [.int x17] kc_RX11_118 rfl dX11_readsThrows_92 rfl rfl (gx_w8 rfl) (fun x q => (gx_isO_of (by unfold fX11_byteAt at q; exact q)).2) (fun _ _ q => okX11_byteAt (d + 3) q) (fun x19 h18 => ?_)
          refine gx_bipush (59 : Int32) dX11_readsThrows_95 (by decide) ?_
          refine gx_icmp_eq 104 dX11_readsThrows_97 (by decide) (fun _ => ?_) (fun _ => ?_)
          · refine gx_iconst (0 : Int32) dX11_readsThrows_104 (by decide) ?_
            exact gx_sub (gX11_readsThrows_105 k29 hk29 v0 v1 (v2 + (1 : Int32)) (0 : Int32) h18) (And.intro rfl (And.intro rfl (And.intro rfl True.intro)))
          · refine gx_iconst (1 : Int32) dX11_readsThrows_100 (by decide) ?_
            refine gx_goto 105 dX11_readsThrows_101 (by decide) ?_
            exact gx_sub (gX11_readsThrows_105 k29 hk29 v0 v1 (v2 + (1 : Int32)) (1 : Int32) h18) (And.intro rfl (And.intro rfl (And.intro rfl True.intro)))
        · exact gx_sub (gX11_readsThrows_66 h10) True.intro
set_option maxRecDepth 100000 in
set_option maxHeartbeats 4000000 in
theorem gX11_readsThrows_29 {E : gx_Env} {d : Nat}  : ∀ (n : Nat) (v0 : Nat) (v1 : Int32) (v2 : Int32) (v3 : Int32) (h : gx_H), gx_G E RX11 cX11_readsThrows 4 (some .boolean) false (d + 4) 0 0 29 [some (.ref v0), some (.int v1), some (.int v2), some (.int v3)] [] h (fun x : Int32 => some (.int x)) (fX11_readsThrows_29 n v0 v1 v2 v3 h) := by
  intro n
  induction n with
  | zero => intro v0 v1 v2 v3 h; exact gx_none
  | succ n ih => exact gbX11_readsThrows_29  (fX11_readsThrows_29  n) ih
set_option maxRecDepth 100000 in
set_option maxHeartbeats 4000000 in
theorem geX11_readsThrows {E : gx_Env} {d : Nat} (v0 : Nat) (h : gx_H) : gx_G E RX11 cX11_readsThrows 4 (some .boolean) false (d + 4) 0 0 0 [some (.ref v0), none, none, none] [] h (fun x : Int32 => some (.int x)) (fX11_readsThrows v0 h) := by
  unfold fX11_readsThrows
  refine gx_bind fun _ _ => ?_
  refine gx_aload_n 0 dX11_readsThrows_0 rfl rfl ?_
  refine gx_iconst (0 : Int32) dX11_readsThrows_1 (by decide) ?_
  refine gx_aload_n 0 dX11_readsThrows_2 rfl rfl ?_
  refine gx_getR kf_RX11_7 dX11_readsThrows_3 (fun a1 => ?_)
  refine gx_sipush (612 : Int32) dX11_readsThrows_6 (by decide) ?_
  refine gx_iald dX11_readsThrows_9 (fun x2 => ?_)
  refine gx_iconst (1 : Int32) dX11_readsThrows_10 (by decide) ?_
  refine gx_isub dX11_readsThrows_11 ?_
  refine gx_callV (ci := 9) (bc := 0) (bs := 0) (mc := 0) (ms := 0) (em' := (fun x : Int32 => some (.int x))) [.int (0 : Int32), .int (x2 - (1 : Int32))] kc_RX11_146 rfl dX11_readsThrows_12 rfl rfl (gx_w8 rfl) (fun x q => (gx_isO_of (by unfold fX11_takesNumber at q; exact q)).2) (fun _ _ q => okX11_takesNumber (d + 1) q) (fun x4 h3 => ?_)
  refine gx_if_ne 20 dX11_readsThrows_15 (by decide) (fun _ => ?_) (fun _ => ?_)
  · refine gx_aload_n 0 dX11_readsThrows_20 rfl rfl ?_
    refine gx_getI kf_RX11_139 dX11_readsThrows_21 (fun x5 => ?_)
    refine gx_istore_n 1 [some (.ref v0), some (.int x5), none, none] dX11_readsThrows_24 rfl (by decide) rfl ?_
    refine gx_iconst (0 : Int32) dX11_readsThrows_25 (by decide) ?_
    refine gx_istore_n 2 [some (.ref v0), some (.int x5), some (.int (0 : Int32)), none] dX11_readsThrows_26 rfl (by decide) rfl ?_
    refine gx_iconst (1 : Int32) dX11_readsThrows_27 (by decide) ?_
    refine gx_istore_n 3 [some (.ref v0), some (.int x5), some (.int (0 : Int32)), some (.int (1 : Int32))] dX11_readsThrows_28 rfl (by decide) rfl ?_
    exact gx_sub (gX11_readsThrows_29 gx_N v0 x5 (0 : Int32) (1 : Int32) h3) (And.intro rfl (And.intro rfl (And.intro rfl (And.intro rfl True.intro))))
  · refine gx_iconst (0 : Int32) dX11_readsThrows_18 (by decide) ?_
    exact gx_zret dX11_readsThrows_19 rfl
theorem okX11_readsThrows {E : gx_Env} (d : Nat) {v0 : Nat} {h : gx_H} {r : Int32} {h1 : gx_H} (q : fX11_readsThrows v0 h = some (r, h1)) : gx_M E yX11_readsThrows cX11_readsThrows 4 (some .boolean) (d + 4) 0 0 [.ref v0] h ((fun x : Int32 => some (.int x)) r) h1 := gx_meth (y := yX11_readsThrows) (cc := cX11_readsThrows) (nL := 4) (em := (fun x : Int32 => some (.int x))) (ini := false) [.ref v0] (by decide) (by simp [gx_sl]) (fun q => by cases q) (geX11_readsThrows v0 h) q
theorem dX11_readsItem_0 : decode cX11_readsItem 0 = .ok (.aload_n 0, 1) := by decide +kernel
theorem dX11_readsItem_1 : decode cX11_readsItem 1 = .ok (.invokevirtual 153, 3) := by decide +kernel
theorem dX11_readsItem_4 : decode cX11_readsItem 4 = .ok (.aload_n 0, 1) := by decide +kernel
theorem dX11_readsItem_5 : decode cX11_readsItem 5 = .ok (.invokevirtual 156, 3) := by decide +kernel
theorem dX11_readsItem_8 : decode cX11_readsItem 8 = .ok (.istore_n 2, 1) := by decide +kernel
theorem dX11_readsItem_9 : decode cX11_readsItem 9 = .ok (.iload_n 1, 1) := by decide +kernel
theorem dX11_readsItem_10 : decode cX11_readsItem 10 = .ok (.iload_n 2, 1) := by decide +kernel
theorem dX11_readsItem_11 : decode cX11_readsItem 11 = .ok (.iconst 1, 1) := by decide +kernel
theorem dX11_readsItem_12 : decode cX11_readsItem 12 = .ok (.if_icmp .ne 7, 3) := by decide +kernel
theorem dX11_readsItem_15 : decode cX11_readsItem 15 = .ok (.iconst 1, 1) := by decide +kernel
theorem dX11_readsItem_16 : decode cX11_readsItem 16 = .ok (.goto 4, 3) := by decide +kernel
theorem dX11_readsItem_19 : decode cX11_readsItem 19 = .ok (.iconst 0, 1) := by decide +kernel
theorem dX11_readsItem_20 : decode cX11_readsItem 20 = .ok (.if_icmp .eq 5, 3) := by decide +kernel
theorem dX11_readsItem_23 : decode cX11_readsItem 23 = .ok (.iconst 0, 1) := by decide +kernel
theorem dX11_readsItem_24 : decode cX11_readsItem 24 = .ok (.ireturn, 1) := by decide +kernel
theorem dX11_readsItem_25 : decode cX11_readsItem 25 = .ok (.iload_n 2, 1) := by decide +kernel
theorem dX11_readsItem_26 : decode cX11_readsItem 26 = .ok (.iconst 1, 1) := by decide +kernel
theorem dX11_readsItem_27 : decode cX11_readsItem 27 = .ok (.if_icmp .ne 10, 3) := by decide +kernel
theorem dX11_readsItem_30 : decode cX11_readsItem 30 = .ok (.aload_n 0, 1) := by decide +kernel
theorem dX11_readsItem_31 : decode cX11_readsItem 31 = .ok (.invokevirtual 159, 3) := by decide +kernel
theorem dX11_readsItem_34 : decode cX11_readsItem 34 = .ok (.goto 56, 3) := by decide +kernel
theorem dX11_readsItem_37 : decode cX11_readsItem 37 = .ok (.iload_n 2, 1) := by decide +kernel
theorem dX11_readsItem_38 : decode cX11_readsItem 38 = .ok (.iconst 2, 1) := by decide +kernel
theorem dX11_readsItem_39 : decode cX11_readsItem 39 = .ok (.if_icmp .ne 10, 3) := by decide +kernel
theorem dX11_readsItem_42 : decode cX11_readsItem 42 = .ok (.aload_n 0, 1) := by decide +kernel
theorem dX11_readsItem_43 : decode cX11_readsItem 43 = .ok (.invokevirtual 163, 3) := by decide +kernel
theorem dX11_readsItem_46 : decode cX11_readsItem 46 = .ok (.goto 44, 3) := by decide +kernel
theorem dX11_readsItem_49 : decode cX11_readsItem 49 = .ok (.iload_n 2, 1) := by decide +kernel
theorem dX11_readsItem_50 : decode cX11_readsItem 50 = .ok (.iconst 3, 1) := by decide +kernel
theorem dX11_readsItem_51 : decode cX11_readsItem 51 = .ok (.if_icmp .ne 10, 3) := by decide +kernel
theorem dX11_readsItem_54 : decode cX11_readsItem 54 = .ok (.aload_n 0, 1) := by decide +kernel
theorem dX11_readsItem_55 : decode cX11_readsItem 55 = .ok (.invokevirtual 166, 3) := by decide +kernel
theorem dX11_readsItem_58 : decode cX11_readsItem 58 = .ok (.goto 32, 3) := by decide +kernel
theorem dX11_readsItem_61 : decode cX11_readsItem 61 = .ok (.iload_n 2, 1) := by decide +kernel
theorem dX11_readsItem_62 : decode cX11_readsItem 62 = .ok (.iconst 4, 1) := by decide +kernel
theorem dX11_readsItem_63 : decode cX11_readsItem 63 = .ok (.if_icmp .ne 10, 3) := by decide +kernel
theorem dX11_readsItem_66 : decode cX11_readsItem 66 = .ok (.aload_n 0, 1) := by decide +kernel
theorem dX11_readsItem_67 : decode cX11_readsItem 67 = .ok (.invokevirtual 169, 3) := by decide +kernel
theorem dX11_readsItem_70 : decode cX11_readsItem 70 = .ok (.goto 20, 3) := by decide +kernel
theorem dX11_readsItem_73 : decode cX11_readsItem 73 = .ok (.iload_n 2, 1) := by decide +kernel
theorem dX11_readsItem_74 : decode cX11_readsItem 74 = .ok (.iconst 5, 1) := by decide +kernel
theorem dX11_readsItem_75 : decode cX11_readsItem 75 = .ok (.if_icmp .ne 14, 3) := by decide +kernel
theorem dX11_readsItem_78 : decode cX11_readsItem 78 = .ok (.aload_n 0, 1) := by decide +kernel
theorem dX11_readsItem_79 : decode cX11_readsItem 79 = .ok (.invokevirtual 172, 3) := by decide +kernel
theorem dX11_readsItem_82 : decode cX11_readsItem 82 = .ok (.ifCond .eq 7, 3) := by decide +kernel
theorem dX11_readsItem_85 : decode cX11_readsItem 85 = .ok (.iconst 1, 1) := by decide +kernel
theorem dX11_readsItem_86 : decode cX11_readsItem 86 = .ok (.goto 4, 3) := by decide +kernel
theorem dX11_readsItem_89 : decode cX11_readsItem 89 = .ok (.iconst 0, 1) := by decide +kernel
theorem dX11_readsItem_90 : decode cX11_readsItem 90 = .ok (.istore_n 3, 1) := by decide +kernel
theorem dX11_readsItem_91 : decode cX11_readsItem 91 = .ok (.iload_n 3, 1) := by decide +kernel
theorem dX11_readsItem_92 : decode cX11_readsItem 92 = .ok (.ifCond .eq 14, 3) := by decide +kernel
theorem dX11_readsItem_95 : decode cX11_readsItem 95 = .ok (.aload_n 0, 1) := by decide +kernel
theorem dX11_readsItem_96 : decode cX11_readsItem 96 = .ok (.invokevirtual 175, 3) := by decide +kernel
theorem dX11_readsItem_99 : decode cX11_readsItem 99 = .ok (.ifCond .eq 7, 3) := by decide +kernel
theorem dX11_readsItem_102 : decode cX11_readsItem 102 = .ok (.iconst 1, 1) := by decide +kernel
theorem dX11_readsItem_103 : decode cX11_readsItem 103 = .ok (.goto 4, 3) := by decide +kernel
theorem dX11_readsItem_106 : decode cX11_readsItem 106 = .ok (.iconst 0, 1) := by decide +kernel
theorem dX11_readsItem_107 : decode cX11_readsItem 107 = .ok (.ireturn, 1) := by decide +kernel
def fX11_readsItem_107 (s0 : Int32) (h : gx_H) : Option (Int32 × gx_H) :=
  gx_ret .boolean s0 h
def fX11_readsItem_106 (h : gx_H) : Option (Int32 × gx_H) :=
  fX11_readsItem_107 (0 : Int32) h
def fX11_readsItem_90 (v0 : Nat) (s0 : Int32) (h : gx_H) : Option (Int32 × gx_H) :=
  if s0 = 0 then
    fX11_readsItem_106 h
  else
    gx_bd (fX11_takesEnd v0 h) fun x16 h15 =>
    if x16 = 0 then
      fX11_readsItem_106 h15
    else
      fX11_readsItem_107 (1 : Int32) h15
def fX11_readsItem_89 (v0 : Nat) (h : gx_H) : Option (Int32 × gx_H) :=
  fX11_readsItem_90 v0 (0 : Int32) h
def fX11_readsItem_20 (v0 : Nat) (v2 : Int32) (s0 : Int32) (s1 : Int32) (h : gx_H) : Option (Int32 × gx_H) :=
  if s0 = s1 then
    if v2 = (1 : Int32) then
      gx_bd (fX11_readsBoard v0 h) fun x14 h13 =>
      fX11_readsItem_90 v0 x14 h13
    else
      if v2 = (2 : Int32) then
        gx_bd (fX11_readsLink v0 h) fun x12 h11 =>
        fX11_readsItem_90 v0 x12 h11
      else
        if v2 = (3 : Int32) then
          gx_bd (fX11_readsPlayer v0 h) fun x10 h9 =>
          fX11_readsItem_90 v0 x10 h9
        else
          if v2 = (4 : Int32) then
            gx_bd (fX11_readsSet v0 h) fun x8 h7 =>
            fX11_readsItem_90 v0 x8 h7
          else
            if v2 = (5 : Int32) then
              gx_bd (fX11_readsThrows v0 h) fun x6 h5 =>
              if x6 = 0 then
                fX11_readsItem_89 v0 h5
              else
                fX11_readsItem_90 v0 (1 : Int32) h5
            else
              fX11_readsItem_89 v0 h
  else
    gx_ret .boolean (0 : Int32) h
def fX11_readsItem (v0 : Nat) (v1 : Int32) (h : gx_H) : Option (Int32 × gx_H) :=
  (gx_isO h v0 9).bind fun _ =>
  gx_bd (fX11_takesWord v0 h) fun u2 h1 =>
  gx_bd (fX11_wordOf v0 h1) fun x4 h3 =>
  if x4 = (1 : Int32) then
    fX11_readsItem_20 v0 x4 v1 (1 : Int32) h3
  else
    fX11_readsItem_20 v0 x4 v1 (0 : Int32) h3
set_option maxRecDepth 100000 in
set_option maxHeartbeats 4000000 in
theorem gX11_readsItem_107 {E : gx_Env} {d : Nat}  : ∀ (s0 : Int32) (h : gx_H), gx_G E RX11 cX11_readsItem 4 (some .boolean) false (d + 5) 0 0 107 [none, none, none, none] [.int s0] h (fun x : Int32 => some (.int x)) (fX11_readsItem_107 s0 h) := by
  intro s0 h
  unfold fX11_readsItem_107
  exact gx_zret dX11_readsItem_107 rfl
set_option maxRecDepth 100000 in
set_option maxHeartbeats 4000000 in
theorem gX11_readsItem_106 {E : gx_Env} {d : Nat}  : ∀  (h : gx_H), gx_G E RX11 cX11_readsItem 4 (some .boolean) false (d + 5) 0 0 106 [none, none, none, none] [] h (fun x : Int32 => some (.int x)) (fX11_readsItem_106 h) := by
  intro  h
  unfold fX11_readsItem_106
  refine gx_iconst (0 : Int32) dX11_readsItem_106 (by decide) ?_
  exact gx_sub (gX11_readsItem_107 (0 : Int32) h) True.intro
set_option maxRecDepth 100000 in
set_option maxHeartbeats 4000000 in
theorem gX11_readsItem_90 {E : gx_Env} {d : Nat}  : ∀ (v0 : Nat) (s0 : Int32) (h : gx_H), gx_G E RX11 cX11_readsItem 4 (some .boolean) false (d + 5) 0 0 90 [some (.ref v0), none, none, none] [.int s0] h (fun x : Int32 => some (.int x)) (fX11_readsItem_90 v0 s0 h) := by
  intro v0 s0 h
  unfold fX11_readsItem_90
  refine gx_istore_n 3 [some (.ref v0), none, none, some (.int s0)] dX11_readsItem_90 rfl (by decide) rfl ?_
  refine gx_iload_n 3 dX11_readsItem_91 rfl rfl ?_
  refine gx_if_eq 106 dX11_readsItem_92 (by decide) (fun _ => ?_) (fun _ => ?_)
  · exact gx_sub (gX11_readsItem_106 h) True.intro
  · refine gx_aload_n 0 dX11_readsItem_95 rfl rfl ?_
    refine gx_callV (ci := 9) (bc := 0) (bs := 0) (mc := 0) (ms := 0) (em' := (fun x : Int32 => some (.int x))) [] kc_RX11_175 rfl dX11_readsItem_96 rfl rfl (gx_w8 rfl) (fun x q => (gx_isO_of (by unfold fX11_takesEnd at q; exact q)).2) (fun _ _ q => okX11_takesEnd (d + 2) q) (fun x16 h15 => ?_)
    refine gx_if_eq 106 dX11_readsItem_99 (by decide) (fun _ => ?_) (fun _ => ?_)
    · exact gx_sub (gX11_readsItem_106 h15) True.intro
    · refine gx_iconst (1 : Int32) dX11_readsItem_102 (by decide) ?_
      refine gx_goto 107 dX11_readsItem_103 (by decide) ?_
      exact gx_sub (gX11_readsItem_107 (1 : Int32) h15) True.intro
set_option maxRecDepth 100000 in
set_option maxHeartbeats 4000000 in
theorem gX11_readsItem_89 {E : gx_Env} {d : Nat}  : ∀ (v0 : Nat) (h : gx_H), gx_G E RX11 cX11_readsItem 4 (some .boolean) false (d + 5) 0 0 89 [some (.ref v0), none, none, none] [] h (fun x : Int32 => some (.int x)) (fX11_readsItem_89 v0 h) := by
  intro v0 h
  unfold fX11_readsItem_89
  refine gx_iconst (0 : Int32) dX11_readsItem_89 (by decide) ?_
  exact gx_sub (gX11_readsItem_90 v0 (0 : Int32) h) (And.intro rfl True.intro)
set_option maxRecDepth 100000 in
set_option maxHeartbeats 4000000 in
theorem gX11_readsItem_20 {E : gx_Env} {d : Nat}  : ∀ (v0 : Nat) (v2 : Int32) (s0 : Int32) (s1 : Int32) (h : gx_H), gx_G E RX11 cX11_readsItem 4 (some .boolean) false (d + 5) 0 0 20 [some (.ref v0), none, some (.int v2), none] [.int s1, .int s0] h (fun x : Int32 => some (.int x)) (fX11_readsItem_20 v0 v2 s0 s1 h) := by
  intro v0 v2 s0 s1 h
  unfold fX11_readsItem_20
  refine gx_icmp_eq 25 dX11_readsItem_20 (by decide) (fun _ => ?_) (fun _ => ?_)
  · refine gx_iload_n 2 dX11_readsItem_25 rfl rfl ?_
    refine gx_iconst (1 : Int32) dX11_readsItem_26 (by decide) ?_
    refine gx_icmp_ne 37 dX11_readsItem_27 (by decide) (fun _ => ?_) (fun _ => ?_)
    · refine gx_iload_n 2 dX11_readsItem_37 rfl rfl ?_
      refine gx_iconst (2 : Int32) dX11_readsItem_38 (by decide) ?_
      refine gx_icmp_ne 49 dX11_readsItem_39 (by decide) (fun _ => ?_) (fun _ => ?_)
      · refine gx_iload_n 2 dX11_readsItem_49 rfl rfl ?_
        refine gx_iconst (3 : Int32) dX11_readsItem_50 (by decide) ?_
        refine gx_icmp_ne 61 dX11_readsItem_51 (by decide) (fun _ => ?_) (fun _ => ?_)
        · refine gx_iload_n 2 dX11_readsItem_61 rfl rfl ?_
          refine gx_iconst (4 : Int32) dX11_readsItem_62 (by decide) ?_
          refine gx_icmp_ne 73 dX11_readsItem_63 (by decide) (fun _ => ?_) (fun _ => ?_)
          · refine gx_iload_n 2 dX11_readsItem_73 rfl rfl ?_
            refine gx_iconst (5 : Int32) dX11_readsItem_74 (by decide) ?_
            refine gx_icmp_ne 89 dX11_readsItem_75 (by decide) (fun _ => ?_) (fun _ => ?_)
            · exact gx_sub (gX11_readsItem_89 v0 h) (And.intro rfl True.intro)
            · refine gx_aload_n 0 dX11_readsItem_78 rfl rfl ?_
              refine gx_callV (ci := 9) (bc := 0) (bs := 0) (mc := 0) (ms := 0) (em' := (fun x : Int32 => some (.int x))) [] kc_RX11_172 rfl dX11_readsItem_79 rfl rfl (gx_w8 rfl) (fun x q => (gx_isO_of (by unfold fX11_readsThrows at q; exact q)).2) (fun _ _ q => okX11_readsThrows d q) (fun x6 h5 => ?_)
              refine gx_if_eq 89 dX11_readsItem_82 (by decide) (fun _ => ?_) (fun _ => ?_)
              · exact gx_sub (gX11_readsItem_89 v0 h5) (And.intro rfl True.intro)
              · refine gx_iconst (1 : Int32) dX11_readsItem_85 (by decide) ?_
                refine gx_goto 90 dX11_readsItem_86 (by decide) ?_
                exact gx_sub (gX11_readsItem_90 v0 (1 : Int32) h5) (And.intro rfl True.intro)
          · refine gx_aload_n 0 dX11_readsItem_66 rfl rfl ?_
            refine gx_callV (ci := 9) (bc := 0) (bs := 0) (mc := 0) (ms := 0) (em' := (fun x : Int32 => some (.int x))) [] kc_RX11_169 rfl dX11_readsItem_67 rfl rfl (gx_w8 rfl) (fun x q => (gx_isO_of (by unfold fX11_readsSet at q; exact q)).2) (fun _ _ q => okX11_readsSet (d + 1) q) (fun x8 h7 => ?_)
            refine gx_goto 90 dX11_readsItem_70 (by decide) ?_
            exact gx_sub (gX11_readsItem_90 v0 x8 h7) (And.intro rfl True.intro)
        · refine gx_aload_n 0 dX11_readsItem_54 rfl rfl ?_
          refine gx_callV (ci := 9) (bc := 0) (bs := 0) (mc := 0) (ms := 0) (em' := (fun x : Int32 => some (.int x))) [] kc_RX11_166 rfl dX11_readsItem_55 rfl rfl (gx_w8 rfl) (fun x q => (gx_isO_of (by unfold fX11_readsPlayer at q; exact q)).2) (fun _ _ q => okX11_readsPlayer (d + 1) q) (fun x10 h9 => ?_)
          refine gx_goto 90 dX11_readsItem_58 (by decide) ?_
          exact gx_sub (gX11_readsItem_90 v0 x10 h9) (And.intro rfl True.intro)
      · refine gx_aload_n 0 dX11_readsItem_42 rfl rfl ?_
        refine gx_callV (ci := 9) (bc := 0) (bs := 0) (mc := 0) (ms := 0) (em' := (fun x : Int32 => some (.int x))) [] kc_RX11_163 rfl dX11_readsItem_43 rfl rfl (gx_w8 rfl) (fun x q => (gx_isO_of (by unfold fX11_readsLink at q; exact q)).2) (fun _ _ q => okX11_readsLink (d + 1) q) (fun x12 h11 => ?_)
        refine gx_goto 90 dX11_readsItem_46 (by decide) ?_
        exact gx_sub (gX11_readsItem_90 v0 x12 h11) (And.intro rfl True.intro)
    · refine gx_aload_n 0 dX11_readsItem_30 rfl rfl ?_
      refine gx_callV (ci := 9) (bc := 0) (bs := 0) (mc := 0) (ms := 0) (em' := (fun x : Int32 => some (.int x))) [] kc_RX11_159 rfl dX11_readsItem_31 rfl rfl (gx_w8 rfl) (fun x q => (gx_isO_of (by unfold fX11_readsBoard at q; exact q)).2) (fun _ _ q => okX11_readsBoard (d + 1) q) (fun x14 h13 => ?_)
      refine gx_goto 90 dX11_readsItem_34 (by decide) ?_
      exact gx_sub (gX11_readsItem_90 v0 x14 h13) (And.intro rfl True.intro)
  · refine gx_iconst (0 : Int32) dX11_readsItem_23 (by decide) ?_
    exact gx_zret dX11_readsItem_24 rfl
set_option maxRecDepth 100000 in
set_option maxHeartbeats 4000000 in
theorem geX11_readsItem {E : gx_Env} {d : Nat} (v0 : Nat) (v1 : Int32) (h : gx_H) : gx_G E RX11 cX11_readsItem 4 (some .boolean) false (d + 5) 0 0 0 [some (.ref v0), some (.int v1), none, none] [] h (fun x : Int32 => some (.int x)) (fX11_readsItem v0 v1 h) := by
  unfold fX11_readsItem
  refine gx_bind fun _ _ => ?_
  refine gx_aload_n 0 dX11_readsItem_0 rfl rfl ?_
  refine gx_callV (ci := 9) (bc := 0) (bs := 0) (mc := 0) (ms := 0) (em' := (fun _ : Unit => none)) [] kc_RX11_153 rfl dX11_readsItem_1 rfl rfl (gx_w8 rfl) (fun x q => (gx_isO_of (by unfold fX11_takesWord at q; exact q)).2) (fun _ _ q => okX11_takesWord (d + 2) q) (fun u2 h1 => ?_)
  refine gx_aload_n 0 dX11_readsItem_4 rfl rfl ?_
  refine gx_callV (ci := 9) (bc := 0) (bs := 0) (mc := 0) (ms := 0) (em' := (fun x : Int32 => some (.int x))) [] kc_RX11_156 rfl dX11_readsItem_5 rfl rfl (gx_w8 rfl) (fun x q => (gx_isO_of (by unfold fX11_wordOf at q; exact q)).2) (fun _ _ q => okX11_wordOf (d + 2) q) (fun x4 h3 => ?_)
  refine gx_istore_n 2 [some (.ref v0), some (.int v1), some (.int x4), none] dX11_readsItem_8 rfl (by decide) rfl ?_
  refine gx_iload_n 1 dX11_readsItem_9 rfl rfl ?_
  refine gx_iload_n 2 dX11_readsItem_10 rfl rfl ?_
  refine gx_iconst (1 : Int32) dX11_readsItem_11 (by decide) ?_
  refine gx_icmp_ne 19 dX11_readsItem_12 (by decide) (fun _ => ?_) (fun _ => ?_)
  · refine gx_iconst (0 : Int32) dX11_readsItem_19 (by decide) ?_
    exact gx_sub (gX11_readsItem_20 v0 x4 v1 (0 : Int32) h3) (And.intro rfl (And.intro rfl True.intro))
  · refine gx_iconst (1 : Int32) dX11_readsItem_15 (by decide) ?_
    refine gx_goto 20 dX11_readsItem_16 (by decide) ?_
    exact gx_sub (gX11_readsItem_20 v0 x4 v1 (1 : Int32) h3) (And.intro rfl (And.intro rfl True.intro))
theorem okX11_readsItem {E : gx_Env} (d : Nat) {v0 : Nat} {v1 : Int32} {h : gx_H} {r : Int32} {h1 : gx_H} (q : fX11_readsItem v0 v1 h = some (r, h1)) : gx_M E yX11_readsItem cX11_readsItem 4 (some .boolean) (d + 5) 0 0 [.ref v0, .int v1] h ((fun x : Int32 => some (.int x)) r) h1 := gx_meth (y := yX11_readsItem) (cc := cX11_readsItem) (nL := 4) (em := (fun x : Int32 => some (.int x))) (ini := false) [.ref v0, .int v1] (by decide) (by simp [gx_sl]) (fun q => by cases q) (geX11_readsItem v0 v1 h) q
theorem dX11_read_0 : decode cX11_read 0 = .ok (.aload_n 0, 1) := by decide +kernel
theorem dX11_read_1 : decode cX11_read 1 = .ok (.sipush 609, 3) := by decide +kernel
theorem dX11_read_4 : decode cX11_read 4 = .ok (.invokevirtual 84, 3) := by decide +kernel
theorem dX11_read_7 : decode cX11_read 7 = .ok (.aload_n 0, 1) := by decide +kernel
theorem dX11_read_8 : decode cX11_read 8 = .ok (.iconst 0, 1) := by decide +kernel
theorem dX11_read_9 : decode cX11_read 9 = .ok (.putfield 115, 3) := by decide +kernel
theorem dX11_read_12 : decode cX11_read 12 = .ok (.iconst 0, 1) := by decide +kernel
theorem dX11_read_13 : decode cX11_read 13 = .ok (.istore_n 1, 1) := by decide +kernel
theorem dX11_read_14 : decode cX11_read 14 = .ok (.aload_n 0, 1) := by decide +kernel
theorem dX11_read_15 : decode cX11_read 15 = .ok (.invokevirtual 124, 3) := by decide +kernel
theorem dX11_read_18 : decode cX11_read 18 = .ok (.iconst 1, 1) := by decide +kernel
theorem dX11_read_19 : decode cX11_read 19 = .ok (.istore_n 2, 1) := by decide +kernel
theorem dX11_read_20 : decode cX11_read 20 = .ok (.iload_n 2, 1) := by decide +kernel
theorem dX11_read_21 : decode cX11_read 21 = .ok (.ifCond .eq 46, 3) := by decide +kernel
theorem dX11_read_24 : decode cX11_read 24 = .ok (.aload_n 0, 1) := by decide +kernel
theorem dX11_read_25 : decode cX11_read 25 = .ok (.getfield 121, 3) := by decide +kernel
theorem dX11_read_28 : decode cX11_read 28 = .ok (.aload_n 0, 1) := by decide +kernel
theorem dX11_read_29 : decode cX11_read 29 = .ok (.getfield 111, 3) := by decide +kernel
theorem dX11_read_32 : decode cX11_read 32 = .ok (.if_icmp .lt 7, 3) := by decide +kernel
theorem dX11_read_35 : decode cX11_read 35 = .ok (.iload_n 1, 1) := by decide +kernel
theorem dX11_read_36 : decode cX11_read 36 = .ok (.ifCond .ne 31, 3) := by decide +kernel
theorem dX11_read_39 : decode cX11_read 39 = .ok (.aload_n 0, 1) := by decide +kernel
theorem dX11_read_40 : decode cX11_read 40 = .ok (.iload_n 1, 1) := by decide +kernel
theorem dX11_read_41 : decode cX11_read 41 = .ok (.ifCond .ne 7, 3) := by decide +kernel
theorem dX11_read_44 : decode cX11_read 44 = .ok (.iconst 1, 1) := by decide +kernel
theorem dX11_read_45 : decode cX11_read 45 = .ok (.goto 4, 3) := by decide +kernel
theorem dX11_read_48 : decode cX11_read 48 = .ok (.iconst 0, 1) := by decide +kernel
theorem dX11_read_49 : decode cX11_read 49 = .ok (.invokevirtual 178, 3) := by decide +kernel
theorem dX11_read_52 : decode cX11_read 52 = .ok (.istore_n 2, 1) := by decide +kernel
theorem dX11_read_53 : decode cX11_read 53 = .ok (.iinc 1 1, 3) := by decide +kernel
theorem dX11_read_56 : decode cX11_read 56 = .ok (.iload_n 2, 1) := by decide +kernel
theorem dX11_read_57 : decode cX11_read 57 = .ok (.ifCond .eq (-37), 3) := by decide +kernel
theorem dX11_read_60 : decode cX11_read 60 = .ok (.aload_n 0, 1) := by decide +kernel
theorem dX11_read_61 : decode cX11_read 61 = .ok (.invokevirtual 124, 3) := by decide +kernel
theorem dX11_read_64 : decode cX11_read 64 = .ok (.goto (-44), 3) := by decide +kernel
theorem dX11_read_67 : decode cX11_read 67 = .ok (.iload_n 2, 1) := by decide +kernel
theorem dX11_read_68 : decode cX11_read 68 = .ok (.ifCond .ne 11, 3) := by decide +kernel
theorem dX11_read_71 : decode cX11_read 71 = .ok (.bipush (-10), 2) := by decide +kernel
theorem dX11_read_73 : decode cX11_read 73 = .ok (.aload_n 0, 1) := by decide +kernel
theorem dX11_read_74 : decode cX11_read 74 = .ok (.getfield 121, 3) := by decide +kernel
theorem dX11_read_77 : decode cX11_read 77 = .ok (.isub, 1) := by decide +kernel
theorem dX11_read_78 : decode cX11_read 78 = .ok (.ireturn, 1) := by decide +kernel
theorem dX11_read_79 : decode cX11_read 79 = .ok (.aload_n 0, 1) := by decide +kernel
theorem dX11_read_80 : decode cX11_read 80 = .ok (.sipush 609, 3) := by decide +kernel
theorem dX11_read_83 : decode cX11_read 83 = .ok (.iconst 0, 1) := by decide +kernel
theorem dX11_read_84 : decode cX11_read 84 = .ok (.invokevirtual 182, 3) := by decide +kernel
theorem dX11_read_87 : decode cX11_read 87 = .ok (.iload_n 1, 1) := by decide +kernel
theorem dX11_read_88 : decode cX11_read 88 = .ok (.ireturn, 1) := by decide +kernel
def fX11_read_49 (k20 : Nat → Int32 → Int32 → gx_H → Option (Int32 × gx_H)) (v0 : Nat) (v1 : Int32) (s0 : Nat) (s1 : Int32) (h : gx_H) : Option (Int32 × gx_H) :=
  gx_bd (fX11_readsItem s0 s1 h) fun x12 h11 =>
  if x12 = 0 then
    k20 v0 (v1 + (1 : Int32)) x12 h11
  else
    gx_bd (fX11_blanks v0 h11) fun u14 h13 =>
    k20 v0 (v1 + (1 : Int32)) x12 h13
def fX11_read_39 (k20 : Nat → Int32 → Int32 → gx_H → Option (Int32 × gx_H)) (v0 : Nat) (v1 : Int32) (h : gx_H) : Option (Int32 × gx_H) :=
  if v1 = 0 then
    fX11_read_49 k20 v0 v1 v0 (1 : Int32) h
  else
    fX11_read_49 k20 v0 v1 v0 (0 : Int32) h
def fX11_read_67 (v0 : Nat) (v1 : Int32) (v2 : Int32) (h : gx_H) : Option (Int32 × gx_H) :=
  if v2 = 0 then
    (gx_fI h v0 9 8).bind fun x10 =>
    some (((-10 : Int32) - x10), h)
  else
    gx_bd (fX11_copy v0 (609 : Int32) (0 : Int32) h) fun u9 h8 =>
    some (v1, h8)
def bX11_read_20 (k20 : Nat → Int32 → Int32 → gx_H → Option (Int32 × gx_H)) (v0 : Nat) (v1 : Int32) (v2 : Int32) (h : gx_H) : Option (Int32 × gx_H) :=
  if v2 = 0 then
    fX11_read_67 v0 v1 v2 h
  else
    (gx_fI h v0 9 8).bind fun x6 =>
    (gx_fI h v0 9 3).bind fun x7 =>
    if x6 < x7 then
      fX11_read_39 k20 v0 v1 h
    else
      if v1 = 0 then
        fX11_read_39 k20 v0 v1 h
      else
        fX11_read_67 v0 v1 v2 h
def fX11_read_20 : Nat → Nat → Int32 → Int32 → gx_H → Option (Int32 × gx_H)
  | 0 => fun _ _ _ _ => none
  | n + 1 => bX11_read_20 (fX11_read_20 n)
def fX11_read (v0 : Nat) (h : gx_H) : Option (Int32 × gx_H) :=
  (gx_isO h v0 9).bind fun _ =>
  gx_bd (fX11_empties v0 (609 : Int32) h) fun u2 h1 =>
  (gx_pF h1 v0 9 7 (.int (0 : Int32))).bind fun h3 =>
  gx_bd (fX11_blanks v0 h3) fun u5 h4 =>
  fX11_read_20 gx_N v0 (0 : Int32) (1 : Int32) h4
set_option maxRecDepth 100000 in
set_option maxHeartbeats 4000000 in
theorem gX11_read_49 {E : gx_Env} {d : Nat} (k20 : Nat → Int32 → Int32 → gx_H → Option (Int32 × gx_H)) (hk20 : ∀ (v0 : Nat) (v1 : Int32) (v2 : Int32) (h : gx_H), gx_G E RX11 cX11_read 3 (some .int) false (d + 6) 0 0 20 [some (.ref v0), some (.int v1), some (.int v2)] [] h (fun x : Int32 => some (.int x)) (k20 v0 v1 v2 h))  : ∀ (v0 : Nat) (v1 : Int32) (s0 : Nat) (s1 : Int32) (h : gx_H), gx_G E RX11 cX11_read 3 (some .int) false (d + 6) 0 0 49 [some (.ref v0), some (.int v1), none] [.int s1, .ref s0] h (fun x : Int32 => some (.int x)) (fX11_read_49 k20 v0 v1 s0 s1 h) := by
  intro v0 v1 s0 s1 h
  unfold fX11_read_49
  refine gx_callV (ci := 9) (bc := 0) (bs := 0) (mc := 0) (ms := 0) (em' := (fun x : Int32 => some (.int x))) [.int s1] kc_RX11_178 rfl dX11_read_49 rfl rfl (gx_w8 rfl) (fun x q => (gx_isO_of (by unfold fX11_readsItem at q; exact q)).2) (fun _ _ q => okX11_readsItem d q) (fun x12 h11 => ?_)
  refine gx_istore_n 2 [some (.ref v0), some (.int v1), some (.int x12)] dX11_read_52 rfl (by decide) rfl ?_
  refine gx_iinc (1 : Int32) [some (.ref v0), some (.int (v1 + (1 : Int32))), some (.int x12)] dX11_read_53 rfl (by decide) (by decide) rfl ?_
  refine gx_iload_n 2 dX11_read_56 rfl rfl ?_
  refine gx_if_eq 20 dX11_read_57 (by decide) (fun _ => ?_) (fun _ => ?_)
  · exact gx_sub (hk20 v0 (v1 + (1 : Int32)) x12 h11) (And.intro rfl (And.intro rfl (And.intro rfl True.intro)))
  · refine gx_aload_n 0 dX11_read_60 rfl rfl ?_
    refine gx_callV (ci := 9) (bc := 0) (bs := 0) (mc := 0) (ms := 0) (em' := (fun _ : Unit => none)) [] kc_RX11_124 rfl dX11_read_61 rfl rfl (gx_w8 rfl) (fun x q => (gx_isO_of (by unfold fX11_blanks at q; exact q)).2) (fun _ _ q => okX11_blanks (d + 4) q) (fun u14 h13 => ?_)
    refine gx_goto 20 dX11_read_64 (by decide) ?_
    exact gx_sub (hk20 v0 (v1 + (1 : Int32)) x12 h13) (And.intro rfl (And.intro rfl (And.intro rfl True.intro)))
set_option maxRecDepth 100000 in
set_option maxHeartbeats 4000000 in
theorem gX11_read_39 {E : gx_Env} {d : Nat} (k20 : Nat → Int32 → Int32 → gx_H → Option (Int32 × gx_H)) (hk20 : ∀ (v0 : Nat) (v1 : Int32) (v2 : Int32) (h : gx_H), gx_G E RX11 cX11_read 3 (some .int) false (d + 6) 0 0 20 [some (.ref v0), some (.int v1), some (.int v2)] [] h (fun x : Int32 => some (.int x)) (k20 v0 v1 v2 h))  : ∀ (v0 : Nat) (v1 : Int32) (h : gx_H), gx_G E RX11 cX11_read 3 (some .int) false (d + 6) 0 0 39 [some (.ref v0), some (.int v1), none] [] h (fun x : Int32 => some (.int x)) (fX11_read_39 k20 v0 v1 h) := by
  intro v0 v1 h
  unfold fX11_read_39
  refine gx_aload_n 0 dX11_read_39 rfl rfl ?_
  refine gx_iload_n 1 dX11_read_40 rfl rfl ?_
  refine gx_if_ne 48 dX11_read_41 (by decide) (fun _ => ?_) (fun _ => ?_)
  · refine gx_iconst (0 : Int32) dX11_read_48 (by decide) ?_
    exact gx_sub (gX11_read_49 k20 hk20 v0 v1 v0 (0 : Int32) h) (And.intro rfl (And.intro rfl True.intro))
  · refine gx_iconst (1 : Int32) dX11_read_44 (by decide) ?_
    refine gx_goto 49 dX11_read_45 (by decide) ?_
    exact gx_sub (gX11_read_49 k20 hk20 v0 v1 v0 (1 : Int32) h) (And.intro rfl (And.intro rfl True.intro))
set_option maxRecDepth 100000 in
set_option maxHeartbeats 4000000 in
theorem gX11_read_67 {E : gx_Env} {d : Nat}  : ∀ (v0 : Nat) (v1 : Int32) (v2 : Int32) (h : gx_H), gx_G E RX11 cX11_read 3 (some .int) false (d + 6) 0 0 67 [some (.ref v0), some (.int v1), some (.int v2)] [] h (fun x : Int32 => some (.int x)) (fX11_read_67 v0 v1 v2 h) := by
  intro v0 v1 v2 h
  unfold fX11_read_67
  refine gx_iload_n 2 dX11_read_67 rfl rfl ?_
  refine gx_if_ne 79 dX11_read_68 (by decide) (fun _ => ?_) (fun _ => ?_)
  · refine gx_aload_n 0 dX11_read_79 rfl rfl ?_
    refine gx_sipush (609 : Int32) dX11_read_80 (by decide) ?_
    refine gx_iconst (0 : Int32) dX11_read_83 (by decide) ?_
    refine gx_callV (ci := 9) (bc := 0) (bs := 0) (mc := 0) (ms := 0) (em' := (fun _ : Unit => none)) [.int (609 : Int32), .int (0 : Int32)] kc_RX11_182 rfl dX11_read_84 rfl rfl (gx_w8 rfl) (fun x q => (gx_isO_of (by unfold fX11_copy at q; exact q)).2) (fun _ _ q => okX11_copy (d + 5) q) (fun u9 h8 => ?_)
    refine gx_iload_n 1 dX11_read_87 rfl rfl ?_
    exact gx_iret dX11_read_88 rfl
  · refine gx_bipush (-10 : Int32) dX11_read_71 (by decide) ?_
    refine gx_aload_n 0 dX11_read_73 rfl rfl ?_
    refine gx_getI kf_RX11_121 dX11_read_74 (fun x10 => ?_)
    refine gx_isub dX11_read_77 ?_
    exact gx_iret dX11_read_78 rfl
set_option maxRecDepth 100000 in
set_option maxHeartbeats 4000000 in
theorem gbX11_read_20 {E : gx_Env} {d : Nat}  (k20 : Nat → Int32 → Int32 → gx_H → Option (Int32 × gx_H)) (hk20 : ∀ (v0 : Nat) (v1 : Int32) (v2 : Int32) (h : gx_H), gx_G E RX11 cX11_read 3 (some .int) false (d + 6) 0 0 20 [some (.ref v0), some (.int v1), some (.int v2)] [] h (fun x : Int32 => some (.int x)) (k20 v0 v1 v2 h))  : ∀ (v0 : Nat) (v1 : Int32) (v2 : Int32) (h : gx_H), gx_G E RX11 cX11_read 3 (some .int) false (d + 6) 0 0 20 [some (.ref v0), some (.int v1), some (.int v2)] [] h (fun x : Int32 => some (.int x)) (bX11_read_20 k20 v0 v1 v2 h) := by
  intro v0 v1 v2 h
  unfold bX11_read_20
  refine gx_iload_n 2 dX11_read_20 rfl rfl ?_
  refine gx_if_eq 67 dX11_read_21 (by decide) (fun _ => ?_) (fun _ => ?_)
  · exact gx_sub (gX11_read_67 v0 v1 v2 h) (And.intro rfl (And.intro rfl (And.intro rfl True.intro)))
  · refine gx_aload_n 0 dX11_read_24 rfl rfl ?_
    refine gx_getI kf_RX11_121 dX11_read_25 (fun x6 => ?_)
    refine gx_aload_n 0 dX11_read_28 rfl rfl ?_
    refine gx_getI kf_RX11_111 dX11_read_29 (fun x7 => ?_)
    refine gx_icmp_lt 39 dX11_read_32 (by decide) (fun _ => ?_) (fun _ => ?_)
    · exact gx_sub (gX11_read_39 k20 hk20 v0 v1 h) (And.intro rfl (And.intro rfl True.intro))
    · refine gx_iload_n 1 dX11_read_35 rfl rfl ?_
      refine gx_if_ne 67 dX11_read_36 (by decide) (fun _ => ?_) (fun _ => ?_)
      · exact gx_sub (gX11_read_67 v0 v1 v2 h) (And.intro rfl (And.intro rfl (And.intro rfl True.intro)))
      · exact gx_sub (gX11_read_39 k20 hk20 v0 v1 h) (And.intro rfl (And.intro rfl True.intro))
set_option maxRecDepth 100000 in
set_option maxHeartbeats 4000000 in
theorem gX11_read_20 {E : gx_Env} {d : Nat}  : ∀ (n : Nat) (v0 : Nat) (v1 : Int32) (v2 : Int32) (h : gx_H), gx_G E RX11 cX11_read 3 (some .int) false (d + 6) 0 0 20 [some (.ref v0), some (.int v1), some (.int v2)] [] h (fun x : Int32 => some (.int x)) (fX11_read_20 n v0 v1 v2 h) := by
  intro n
  induction n with
  | zero => intro v0 v1 v2 h; exact gx_none
  | succ n ih => exact gbX11_read_20  (fX11_read_20  n) ih
set_option maxRecDepth 100000 in
set_option maxHeartbeats 4000000 in
theorem geX11_read {E : gx_Env} {d : Nat} (v0 : Nat) (h : gx_H) : gx_G E RX11 cX11_read 3 (some .int) false (d + 6) 0 0 0 [some (.ref v0), none, none] [] h (fun x : Int32 => some (.int x)) (fX11_read v0 h) := by
  unfold fX11_read
  refine gx_bind fun _ _ => ?_
  refine gx_aload_n 0 dX11_read_0 rfl rfl ?_
  refine gx_sipush (609 : Int32) dX11_read_1 (by decide) ?_
  refine gx_callV (ci := 9) (bc := 0) (bs := 0) (mc := 0) (ms := 0) (em' := (fun _ : Unit => none)) [.int (609 : Int32)] kc_RX11_84 rfl dX11_read_4 rfl rfl (gx_w8 rfl) (fun x q => (gx_isO_of (by unfold fX11_empties at q; exact q)).2) (fun _ _ q => okX11_empties (d + 5) q) (fun u2 h1 => ?_)
  refine gx_aload_n 0 dX11_read_7 rfl rfl ?_
  refine gx_iconst (0 : Int32) dX11_read_8 (by decide) ?_
  refine gx_putI kp_RX11_115 (fun q => by cases q) dX11_read_9 (fun h3 => ?_)
  refine gx_iconst (0 : Int32) dX11_read_12 (by decide) ?_
  refine gx_istore_n 1 [some (.ref v0), some (.int (0 : Int32)), none] dX11_read_13 rfl (by decide) rfl ?_
  refine gx_aload_n 0 dX11_read_14 rfl rfl ?_
  refine gx_callV (ci := 9) (bc := 0) (bs := 0) (mc := 0) (ms := 0) (em' := (fun _ : Unit => none)) [] kc_RX11_124 rfl dX11_read_15 rfl rfl (gx_w8 rfl) (fun x q => (gx_isO_of (by unfold fX11_blanks at q; exact q)).2) (fun _ _ q => okX11_blanks (d + 4) q) (fun u5 h4 => ?_)
  refine gx_iconst (1 : Int32) dX11_read_18 (by decide) ?_
  refine gx_istore_n 2 [some (.ref v0), some (.int (0 : Int32)), some (.int (1 : Int32))] dX11_read_19 rfl (by decide) rfl ?_
  exact gx_sub (gX11_read_20 gx_N v0 (0 : Int32) (1 : Int32) h4) (And.intro rfl (And.intro rfl (And.intro rfl True.intro)))
theorem okX11_read {E : gx_Env} (d : Nat) {v0 : Nat} {h : gx_H} {r : Int32} {h1 : gx_H} (q : fX11_read v0 h = some (r, h1)) : gx_M E yX11_read cX11_read 3 (some .int) (d + 6) 0 0 [.ref v0] h ((fun x : Int32 => some (.int x)) r) h1 := gx_meth (y := yX11_read) (cc := cX11_read) (nL := 3) (em := (fun x : Int32 => some (.int x))) (ini := false) [.ref v0] (by decide) (by simp [gx_sl]) (fun q => by cases q) (geX11_read v0 h) q
theorem dX11_minds_0 : decode cX11_minds 0 = .ok (.aload_n 0, 1) := by decide +kernel
theorem dX11_minds_1 : decode cX11_minds 1 = .ok (.getfield 7, 3) := by decide +kernel
theorem dX11_minds_4 : decode cX11_minds 4 = .ok (.bipush 90, 2) := by decide +kernel
theorem dX11_minds_6 : decode cX11_minds 6 = .ok (.iaload, 1) := by decide +kernel
theorem dX11_minds_7 : decode cX11_minds 7 = .ok (.bipush 8, 2) := by decide +kernel
theorem dX11_minds_9 : decode cX11_minds 9 = .ok (.if_icmp .ne 49, 3) := by decide +kernel
theorem dX11_minds_12 : decode cX11_minds 12 = .ok (.iconst 0, 1) := by decide +kernel
theorem dX11_minds_13 : decode cX11_minds 13 = .ok (.istore_n 1, 1) := by decide +kernel
theorem dX11_minds_14 : decode cX11_minds 14 = .ok (.iload_n 1, 1) := by decide +kernel
theorem dX11_minds_15 : decode cX11_minds 15 = .ok (.bipush 98, 2) := by decide +kernel
theorem dX11_minds_17 : decode cX11_minds 17 = .ok (.if_icmp .ge 30, 3) := by decide +kernel
theorem dX11_minds_20 : decode cX11_minds 20 = .ok (.aload_n 0, 1) := by decide +kernel
theorem dX11_minds_21 : decode cX11_minds 21 = .ok (.getfield 7, 3) := by decide +kernel
theorem dX11_minds_24 : decode cX11_minds 24 = .ok (.bipush 91, 2) := by decide +kernel
theorem dX11_minds_26 : decode cX11_minds 26 = .ok (.iload_n 1, 1) := by decide +kernel
theorem dX11_minds_27 : decode cX11_minds 27 = .ok (.iadd, 1) := by decide +kernel
theorem dX11_minds_28 : decode cX11_minds 28 = .ok (.aload_n 0, 1) := by decide +kernel
theorem dX11_minds_29 : decode cX11_minds 29 = .ok (.getfield 7, 3) := by decide +kernel
theorem dX11_minds_32 : decode cX11_minds 32 = .ok (.bipush 91, 2) := by decide +kernel
theorem dX11_minds_34 : decode cX11_minds 34 = .ok (.iload_n 1, 1) := by decide +kernel
theorem dX11_minds_35 : decode cX11_minds 35 = .ok (.iadd, 1) := by decide +kernel
theorem dX11_minds_36 : decode cX11_minds 36 = .ok (.bipush 14, 2) := by decide +kernel
theorem dX11_minds_38 : decode cX11_minds 38 = .ok (.iadd, 1) := by decide +kernel
theorem dX11_minds_39 : decode cX11_minds 39 = .ok (.iaload, 1) := by decide +kernel
theorem dX11_minds_40 : decode cX11_minds 40 = .ok (.iastore, 1) := by decide +kernel
theorem dX11_minds_41 : decode cX11_minds 41 = .ok (.iinc 1 1, 3) := by decide +kernel
theorem dX11_minds_44 : decode cX11_minds 44 = .ok (.goto (-30), 3) := by decide +kernel
theorem dX11_minds_47 : decode cX11_minds 47 = .ok (.aload_n 0, 1) := by decide +kernel
theorem dX11_minds_48 : decode cX11_minds 48 = .ok (.getfield 7, 3) := by decide +kernel
theorem dX11_minds_51 : decode cX11_minds 51 = .ok (.bipush 90, 2) := by decide +kernel
theorem dX11_minds_53 : decode cX11_minds 53 = .ok (.dup2, 1) := by decide +kernel
theorem dX11_minds_54 : decode cX11_minds 54 = .ok (.iaload, 1) := by decide +kernel
theorem dX11_minds_55 : decode cX11_minds 55 = .ok (.iconst 1, 1) := by decide +kernel
theorem dX11_minds_56 : decode cX11_minds 56 = .ok (.isub, 1) := by decide +kernel
theorem dX11_minds_57 : decode cX11_minds 57 = .ok (.iastore, 1) := by decide +kernel
theorem dX11_minds_58 : decode cX11_minds 58 = .ok (.bipush 91, 2) := by decide +kernel
theorem dX11_minds_60 : decode cX11_minds 60 = .ok (.bipush 14, 2) := by decide +kernel
theorem dX11_minds_62 : decode cX11_minds 62 = .ok (.aload_n 0, 1) := by decide +kernel
theorem dX11_minds_63 : decode cX11_minds 63 = .ok (.getfield 7, 3) := by decide +kernel
theorem dX11_minds_66 : decode cX11_minds 66 = .ok (.bipush 90, 2) := by decide +kernel
theorem dX11_minds_68 : decode cX11_minds 68 = .ok (.iaload, 1) := by decide +kernel
theorem dX11_minds_69 : decode cX11_minds 69 = .ok (.imul, 1) := by decide +kernel
theorem dX11_minds_70 : decode cX11_minds 70 = .ok (.iadd, 1) := by decide +kernel
theorem dX11_minds_71 : decode cX11_minds 71 = .ok (.istore_n 1, 1) := by decide +kernel
theorem dX11_minds_72 : decode cX11_minds 72 = .ok (.iconst 0, 1) := by decide +kernel
theorem dX11_minds_73 : decode cX11_minds 73 = .ok (.istore_n 2, 1) := by decide +kernel
theorem dX11_minds_74 : decode cX11_minds 74 = .ok (.iload_n 2, 1) := by decide +kernel
theorem dX11_minds_75 : decode cX11_minds 75 = .ok (.iconst 4, 1) := by decide +kernel
theorem dX11_minds_76 : decode cX11_minds 76 = .ok (.if_icmp .ge 45, 3) := by decide +kernel
theorem dX11_minds_79 : decode cX11_minds 79 = .ok (.aload_n 0, 1) := by decide +kernel
theorem dX11_minds_80 : decode cX11_minds 80 = .ok (.getfield 7, 3) := by decide +kernel
theorem dX11_minds_83 : decode cX11_minds 83 = .ok (.iload_n 1, 1) := by decide +kernel
theorem dX11_minds_84 : decode cX11_minds 84 = .ok (.iload_n 2, 1) := by decide +kernel
theorem dX11_minds_85 : decode cX11_minds 85 = .ok (.iadd, 1) := by decide +kernel
theorem dX11_minds_86 : decode cX11_minds 86 = .ok (.aload_n 0, 1) := by decide +kernel
theorem dX11_minds_87 : decode cX11_minds 87 = .ok (.getfield 7, 3) := by decide +kernel
theorem dX11_minds_90 : decode cX11_minds 90 = .ok (.bipush 32, 2) := by decide +kernel
theorem dX11_minds_92 : decode cX11_minds 92 = .ok (.iload_n 2, 1) := by decide +kernel
theorem dX11_minds_93 : decode cX11_minds 93 = .ok (.iadd, 1) := by decide +kernel
theorem dX11_minds_94 : decode cX11_minds 94 = .ok (.iaload, 1) := by decide +kernel
theorem dX11_minds_95 : decode cX11_minds 95 = .ok (.iastore, 1) := by decide +kernel
theorem dX11_minds_96 : decode cX11_minds 96 = .ok (.aload_n 0, 1) := by decide +kernel
theorem dX11_minds_97 : decode cX11_minds 97 = .ok (.getfield 7, 3) := by decide +kernel
theorem dX11_minds_100 : decode cX11_minds 100 = .ok (.iload_n 1, 1) := by decide +kernel
theorem dX11_minds_101 : decode cX11_minds 101 = .ok (.iconst 4, 1) := by decide +kernel
theorem dX11_minds_102 : decode cX11_minds 102 = .ok (.iadd, 1) := by decide +kernel
theorem dX11_minds_103 : decode cX11_minds 103 = .ok (.iload_n 2, 1) := by decide +kernel
theorem dX11_minds_104 : decode cX11_minds 104 = .ok (.iadd, 1) := by decide +kernel
theorem dX11_minds_105 : decode cX11_minds 105 = .ok (.aload_n 0, 1) := by decide +kernel
theorem dX11_minds_106 : decode cX11_minds 106 = .ok (.getfield 7, 3) := by decide +kernel
theorem dX11_minds_109 : decode cX11_minds 109 = .ok (.bipush 36, 2) := by decide +kernel
theorem dX11_minds_111 : decode cX11_minds 111 = .ok (.iload_n 2, 1) := by decide +kernel
theorem dX11_minds_112 : decode cX11_minds 112 = .ok (.iadd, 1) := by decide +kernel
theorem dX11_minds_113 : decode cX11_minds 113 = .ok (.iaload, 1) := by decide +kernel
theorem dX11_minds_114 : decode cX11_minds 114 = .ok (.iastore, 1) := by decide +kernel
theorem dX11_minds_115 : decode cX11_minds 115 = .ok (.iinc 2 1, 3) := by decide +kernel
theorem dX11_minds_118 : decode cX11_minds 118 = .ok (.goto (-44), 3) := by decide +kernel
theorem dX11_minds_121 : decode cX11_minds 121 = .ok (.iconst 0, 1) := by decide +kernel
theorem dX11_minds_122 : decode cX11_minds 122 = .ok (.istore_n 2, 1) := by decide +kernel
theorem dX11_minds_123 : decode cX11_minds 123 = .ok (.iload_n 2, 1) := by decide +kernel
theorem dX11_minds_124 : decode cX11_minds 124 = .ok (.bipush 6, 2) := by decide +kernel
theorem dX11_minds_126 : decode cX11_minds 126 = .ok (.if_icmp .ge 29, 3) := by decide +kernel
theorem dX11_minds_129 : decode cX11_minds 129 = .ok (.aload_n 0, 1) := by decide +kernel
theorem dX11_minds_130 : decode cX11_minds 130 = .ok (.getfield 7, 3) := by decide +kernel
theorem dX11_minds_133 : decode cX11_minds 133 = .ok (.iload_n 1, 1) := by decide +kernel
theorem dX11_minds_134 : decode cX11_minds 134 = .ok (.bipush 8, 2) := by decide +kernel
theorem dX11_minds_136 : decode cX11_minds 136 = .ok (.iadd, 1) := by decide +kernel
theorem dX11_minds_137 : decode cX11_minds 137 = .ok (.iload_n 2, 1) := by decide +kernel
theorem dX11_minds_138 : decode cX11_minds 138 = .ok (.iadd, 1) := by decide +kernel
theorem dX11_minds_139 : decode cX11_minds 139 = .ok (.aload_n 0, 1) := by decide +kernel
theorem dX11_minds_140 : decode cX11_minds 140 = .ok (.getfield 7, 3) := by decide +kernel
theorem dX11_minds_143 : decode cX11_minds 143 = .ok (.bipush 22, 2) := by decide +kernel
theorem dX11_minds_145 : decode cX11_minds 145 = .ok (.iload_n 2, 1) := by decide +kernel
theorem dX11_minds_146 : decode cX11_minds 146 = .ok (.iadd, 1) := by decide +kernel
theorem dX11_minds_147 : decode cX11_minds 147 = .ok (.iaload, 1) := by decide +kernel
theorem dX11_minds_148 : decode cX11_minds 148 = .ok (.iastore, 1) := by decide +kernel
theorem dX11_minds_149 : decode cX11_minds 149 = .ok (.iinc 2 1, 3) := by decide +kernel
theorem dX11_minds_152 : decode cX11_minds 152 = .ok (.goto (-29), 3) := by decide +kernel
theorem dX11_minds_155 : decode cX11_minds 155 = .ok (.aload_n 0, 1) := by decide +kernel
theorem dX11_minds_156 : decode cX11_minds 156 = .ok (.getfield 7, 3) := by decide +kernel
theorem dX11_minds_159 : decode cX11_minds 159 = .ok (.bipush 90, 2) := by decide +kernel
theorem dX11_minds_161 : decode cX11_minds 161 = .ok (.dup2, 1) := by decide +kernel
theorem dX11_minds_162 : decode cX11_minds 162 = .ok (.iaload, 1) := by decide +kernel
theorem dX11_minds_163 : decode cX11_minds 163 = .ok (.iconst 1, 1) := by decide +kernel
theorem dX11_minds_164 : decode cX11_minds 164 = .ok (.iadd, 1) := by decide +kernel
theorem dX11_minds_165 : decode cX11_minds 165 = .ok (.iastore, 1) := by decide +kernel
theorem dX11_minds_166 : decode cX11_minds 166 = .ok (.return_, 1) := by decide +kernel
def bX11_minds_123 (k123 : Nat → Int32 → Int32 → gx_H → Option (Unit × gx_H)) (v0 : Nat) (v1 : Int32) (v2 : Int32) (h : gx_H) : Option (Unit × gx_H) :=
  if (6 : Int32) ≤ v2 then
    (gx_fR h v0 9 0).bind fun a20 =>
    (gx_aI 0 h a20 (90 : Int32)).bind fun x21 =>
    (gx_sI 0 h a20 (90 : Int32) (x21 + (1 : Int32))).bind fun h22 =>
    some ((), h22)
  else
    (gx_fR h v0 9 0).bind fun a23 =>
    (gx_fR h v0 9 0).bind fun a24 =>
    (gx_aI 0 h a24 ((22 : Int32) + v2)).bind fun x25 =>
    (gx_sI 0 h a23 ((v1 + (8 : Int32)) + v2) x25).bind fun h26 =>
    k123 v0 v1 (v2 + (1 : Int32)) h26
def fX11_minds_123 : Nat → Nat → Int32 → Int32 → gx_H → Option (Unit × gx_H)
  | 0 => fun _ _ _ _ => none
  | n + 1 => bX11_minds_123 (fX11_minds_123 n)
def bX11_minds_74 (k74 : Nat → Int32 → Int32 → gx_H → Option (Unit × gx_H)) (v0 : Nat) (v1 : Int32) (v2 : Int32) (h : gx_H) : Option (Unit × gx_H) :=
  if (4 : Int32) ≤ v2 then
    fX11_minds_123 gx_N v0 v1 (0 : Int32) h
  else
    (gx_fR h v0 9 0).bind fun a12 =>
    (gx_fR h v0 9 0).bind fun a13 =>
    (gx_aI 0 h a13 ((32 : Int32) + v2)).bind fun x14 =>
    (gx_sI 0 h a12 (v1 + v2) x14).bind fun h15 =>
    (gx_fR h15 v0 9 0).bind fun a16 =>
    (gx_fR h15 v0 9 0).bind fun a17 =>
    (gx_aI 0 h15 a17 ((36 : Int32) + v2)).bind fun x18 =>
    (gx_sI 0 h15 a16 ((v1 + (4 : Int32)) + v2) x18).bind fun h19 =>
    k74 v0 v1 (v2 + (1 : Int32)) h19
def fX11_minds_74 : Nat → Nat → Int32 → Int32 → gx_H → Option (Unit × gx_H)
  | 0 => fun _ _ _ _ => none
  | n + 1 => bX11_minds_74 (fX11_minds_74 n)
def fX11_minds_58 (v0 : Nat) (h : gx_H) : Option (Unit × gx_H) :=
  (gx_fR h v0 9 0).bind fun a3 =>
  (gx_aI 0 h a3 (90 : Int32)).bind fun x4 =>
  fX11_minds_74 gx_N v0 ((91 : Int32) + ((14 : Int32) * x4)) (0 : Int32) h
def bX11_minds_14 (k14 : Nat → Int32 → gx_H → Option (Unit × gx_H)) (v0 : Nat) (v1 : Int32) (h : gx_H) : Option (Unit × gx_H) :=
  if (98 : Int32) ≤ v1 then
    (gx_fR h v0 9 0).bind fun a5 =>
    (gx_aI 0 h a5 (90 : Int32)).bind fun x6 =>
    (gx_sI 0 h a5 (90 : Int32) (x6 - (1 : Int32))).bind fun h7 =>
    fX11_minds_58 v0 h7
  else
    (gx_fR h v0 9 0).bind fun a8 =>
    (gx_fR h v0 9 0).bind fun a9 =>
    (gx_aI 0 h a9 (((91 : Int32) + v1) + (14 : Int32))).bind fun x10 =>
    (gx_sI 0 h a8 ((91 : Int32) + v1) x10).bind fun h11 =>
    k14 v0 (v1 + (1 : Int32)) h11
def fX11_minds_14 : Nat → Nat → Int32 → gx_H → Option (Unit × gx_H)
  | 0 => fun _ _ _ => none
  | n + 1 => bX11_minds_14 (fX11_minds_14 n)
def fX11_minds (v0 : Nat) (h : gx_H) : Option (Unit × gx_H) :=
  (gx_isO h v0 9).bind fun _ =>
  (gx_fR h v0 9 0).bind fun a1 =>
  (gx_aI 0 h a1 (90 : Int32)).bind fun x2 =>
  if x2 = (8 : Int32) then
    fX11_minds_14 gx_N v0 (0 : Int32) h
  else
    fX11_minds_58 v0 h
set_option maxRecDepth 100000 in
set_option maxHeartbeats 4000000 in
theorem gbX11_minds_123 {E : gx_Env} {d : Nat}  (k123 : Nat → Int32 → Int32 → gx_H → Option (Unit × gx_H)) (hk123 : ∀ (v0 : Nat) (v1 : Int32) (v2 : Int32) (h : gx_H), gx_G E RX11 cX11_minds 3 none false d 0 0 123 [some (.ref v0), some (.int v1), some (.int v2)] [] h (fun _ : Unit => none) (k123 v0 v1 v2 h))  : ∀ (v0 : Nat) (v1 : Int32) (v2 : Int32) (h : gx_H), gx_G E RX11 cX11_minds 3 none false d 0 0 123 [some (.ref v0), some (.int v1), some (.int v2)] [] h (fun _ : Unit => none) (bX11_minds_123 k123 v0 v1 v2 h) := by
  intro v0 v1 v2 h
  unfold bX11_minds_123
  refine gx_iload_n 2 dX11_minds_123 rfl rfl ?_
  refine gx_bipush (6 : Int32) dX11_minds_124 (by decide) ?_
  refine gx_icmp_ge 155 dX11_minds_126 (by decide) (fun _ => ?_) (fun _ => ?_)
  · refine gx_aload_n 0 dX11_minds_155 rfl rfl ?_
    refine gx_getR kf_RX11_7 dX11_minds_156 (fun a20 => ?_)
    refine gx_bipush (90 : Int32) dX11_minds_159 (by decide) ?_
    refine gx_dup2 dX11_minds_161 rfl rfl ?_
    refine gx_iald dX11_minds_162 (fun x21 => ?_)
    refine gx_iconst (1 : Int32) dX11_minds_163 (by decide) ?_
    refine gx_iadd dX11_minds_164 ?_
    refine gx_iast dX11_minds_165 (fun h22 => ?_)
    exact gx_vret dX11_minds_166 rfl
  · refine gx_aload_n 0 dX11_minds_129 rfl rfl ?_
    refine gx_getR kf_RX11_7 dX11_minds_130 (fun a23 => ?_)
    refine gx_iload_n 1 dX11_minds_133 rfl rfl ?_
    refine gx_bipush (8 : Int32) dX11_minds_134 (by decide) ?_
    refine gx_iadd dX11_minds_136 ?_
    refine gx_iload_n 2 dX11_minds_137 rfl rfl ?_
    refine gx_iadd dX11_minds_138 ?_
    refine gx_aload_n 0 dX11_minds_139 rfl rfl ?_
    refine gx_getR kf_RX11_7 dX11_minds_140 (fun a24 => ?_)
    refine gx_bipush (22 : Int32) dX11_minds_143 (by decide) ?_
    refine gx_iload_n 2 dX11_minds_145 rfl rfl ?_
    refine gx_iadd dX11_minds_146 ?_
    refine gx_iald dX11_minds_147 (fun x25 => ?_)
    refine gx_iast dX11_minds_148 (fun h26 => ?_)
    refine gx_iinc (1 : Int32) [some (.ref v0), some (.int v1), some (.int (v2 + (1 : Int32)))] dX11_minds_149 rfl (by decide) (by decide) rfl ?_
    refine gx_goto 123 dX11_minds_152 (by decide) ?_
    exact gx_sub (hk123 v0 v1 (v2 + (1 : Int32)) h26) (And.intro rfl (And.intro rfl (And.intro rfl True.intro)))
set_option maxRecDepth 100000 in
set_option maxHeartbeats 4000000 in
theorem gX11_minds_123 {E : gx_Env} {d : Nat}  : ∀ (n : Nat) (v0 : Nat) (v1 : Int32) (v2 : Int32) (h : gx_H), gx_G E RX11 cX11_minds 3 none false d 0 0 123 [some (.ref v0), some (.int v1), some (.int v2)] [] h (fun _ : Unit => none) (fX11_minds_123 n v0 v1 v2 h) := by
  intro n
  induction n with
  | zero => intro v0 v1 v2 h; exact gx_none
  | succ n ih => exact gbX11_minds_123  (fX11_minds_123  n) ih
set_option maxRecDepth 100000 in
set_option maxHeartbeats 4000000 in
theorem gbX11_minds_74 {E : gx_Env} {d : Nat}  (k74 : Nat → Int32 → Int32 → gx_H → Option (Unit × gx_H)) (hk74 : ∀ (v0 : Nat) (v1 : Int32) (v2 : Int32) (h : gx_H), gx_G E RX11 cX11_minds 3 none false d 0 0 74 [some (.ref v0), some (.int v1), some (.int v2)] [] h (fun _ : Unit => none) (k74 v0 v1 v2 h))  : ∀ (v0 : Nat) (v1 : Int32) (v2 : Int32) (h : gx_H), gx_G E RX11 cX11_minds 3 none false d 0 0 74 [some (.ref v0), some (.int v1), some (.int v2)] [] h (fun _ : Unit => none) (bX11_minds_74 k74 v0 v1 v2 h) := by
  intro v0 v1 v2 h
  unfold bX11_minds_74
  refine gx_iload_n 2 dX11_minds_74 rfl rfl ?_
  refine gx_iconst (4 : Int32) dX11_minds_75 (by decide) ?_
  refine gx_icmp_ge 121 dX11_minds_76 (by decide) (fun _ => ?_) (fun _ => ?_)
  · refine gx_iconst (0 : Int32) dX11_minds_121 (by decide) ?_
    refine gx_istore_n 2 [some (.ref v0), some (.int v1), some (.int (0 : Int32))] dX11_minds_122 rfl (by decide) rfl ?_
    exact gx_sub (gX11_minds_123 gx_N v0 v1 (0 : Int32) h) (And.intro rfl (And.intro rfl (And.intro rfl True.intro)))
  · refine gx_aload_n 0 dX11_minds_79 rfl rfl ?_
    refine gx_getR kf_RX11_7 dX11_minds_80 (fun a12 => ?_)
    refine gx_iload_n 1 dX11_minds_83 rfl rfl ?_
    refine gx_iload_n 2 dX11_minds_84 rfl rfl ?_
    refine gx_iadd dX11_minds_85 ?_
    refine gx_aload_n 0 dX11_minds_86 rfl rfl ?_
    refine gx_getR kf_RX11_7 dX11_minds_87 (fun a13 => ?_)
    refine gx_bipush (32 : Int32) dX11_minds_90 (by decide) ?_
    refine gx_iload_n 2 dX11_minds_92 rfl rfl ?_
    refine gx_iadd dX11_minds_93 ?_
    refine gx_iald dX11_minds_94 (fun x14 => ?_)
    refine gx_iast dX11_minds_95 (fun h15 => ?_)
    refine gx_aload_n 0 dX11_minds_96 rfl rfl ?_
    refine gx_getR kf_RX11_7 dX11_minds_97 (fun a16 => ?_)
    refine gx_iload_n 1 dX11_minds_100 rfl rfl ?_
    refine gx_iconst (4 : Int32) dX11_minds_101 (by decide) ?_
    refine gx_iadd dX11_minds_102 ?_
    refine gx_iload_n 2 dX11_minds_103 rfl rfl ?_
    refine gx_iadd dX11_minds_104 ?_
    refine gx_aload_n 0 dX11_minds_105 rfl rfl ?_
    refine gx_getR kf_RX11_7 dX11_minds_106 (fun a17 => ?_)
    refine gx_bipush (36 : Int32) dX11_minds_109 (by decide) ?_
    refine gx_iload_n 2 dX11_minds_111 rfl rfl ?_
    refine gx_iadd dX11_minds_112 ?_
    refine gx_iald dX11_minds_113 (fun x18 => ?_)
    refine gx_iast dX11_minds_114 (fun h19 => ?_)
    refine gx_iinc (1 : Int32) [some (.ref v0), some (.int v1), some (.int (v2 + (1 : Int32)))] dX11_minds_115 rfl (by decide) (by decide) rfl ?_
    refine gx_goto 74 dX11_minds_118 (by decide) ?_
    exact gx_sub (hk74 v0 v1 (v2 + (1 : Int32)) h19) (And.intro rfl (And.intro rfl (And.intro rfl True.intro)))
set_option maxRecDepth 100000 in
set_option maxHeartbeats 4000000 in
theorem gX11_minds_74 {E : gx_Env} {d : Nat}  : ∀ (n : Nat) (v0 : Nat) (v1 : Int32) (v2 : Int32) (h : gx_H), gx_G E RX11 cX11_minds 3 none false d 0 0 74 [some (.ref v0), some (.int v1), some (.int v2)] [] h (fun _ : Unit => none) (fX11_minds_74 n v0 v1 v2 h) := by
  intro n
  induction n with
  | zero => intro v0 v1 v2 h; exact gx_none
  | succ n ih => exact gbX11_minds_74  (fX11_minds_74  n) ih
set_option maxRecDepth 100000 in
set_option maxHeartbeats 4000000 in
theorem gX11_minds_58 {E : gx_Env} {d : Nat}  : ∀ (v0 : Nat) (h : gx_H), gx_G E RX11 cX11_minds 3 none false d 0 0 58 [some (.ref v0), none, none] [] h (fun _ : Unit => none) (fX11_minds_58 v0 h) := by
  intro v0 h
  unfold fX11_minds_58
  refine gx_bipush (91 : Int32) dX11_minds_58 (by decide) ?_
  refine gx_bipush (14 : Int32) dX11_minds_60 (by decide) ?_
  refine gx_aload_n 0 dX11_minds_62 rfl rfl ?_
  refine gx_getR kf_RX11_7 dX11_minds_63 (fun a3 => ?_)
  refine gx_bipush (90 : Int32) dX11_minds_66 (by decide) ?_
  refine gx_iald dX11_minds_68 (fun x4 => ?_)
  refine gx_imul dX11_minds_69 ?_
  refine gx_iadd dX11_minds_70 ?_
  refine gx_istore_n 1 [some (.ref v0), some (.int ((91 : Int32) + ((14 : Int32) * x4))), none] dX11_minds_71 rfl (by decide) rfl ?_
  refine gx_iconst (0 : Int32) dX11_minds_72 (by decide) ?_
  refine gx_istore_n 2 [some (.ref v0), some (.int ((91 : Int32) + ((14 : Int32) * x4))), some (.int (0 : Int32))] dX11_minds_73 rfl (by decide) rfl ?_
  exact gx_sub (gX11_minds_74 gx_N v0 ((91 : Int32) + ((14 : Int32) * x4)) (0 : Int32) h) (And.intro rfl (And.intro rfl (And.intro rfl True.intro)))
set_option maxRecDepth 100000 in
set_option maxHeartbeats 4000000 in
theorem gbX11_minds_14 {E : gx_Env} {d : Nat}  (k14 : Nat → Int32 → gx_H → Option (Unit × gx_H)) (hk14 : ∀ (v0 : Nat) (v1 : Int32) (h : gx_H), gx_G E RX11 cX11_minds 3 none false d 0 0 14 [some (.ref v0), some (.int v1), none] [] h (fun _ : Unit => none) (k14 v0 v1 h))  : ∀ (v0 : Nat) (v1 : Int32) (h : gx_H), gx_G E RX11 cX11_minds 3 none false d 0 0 14 [some (.ref v0), some (.int v1), none] [] h (fun _ : Unit => none) (bX11_minds_14 k14 v0 v1 h) := by
  intro v0 v1 h
  unfold bX11_minds_14
  refine gx_iload_n 1 dX11_minds_14 rfl rfl ?_
  refine gx_bipush (98 : Int32) dX11_minds_15 (by decide) ?_
  refine gx_icmp_ge 47 dX11_minds_17 (by decide) (fun _ => ?_) (fun _ => ?_)
  · refine gx_aload_n 0 dX11_minds_47 rfl rfl ?_
    refine gx_getR kf_RX11_7 dX11_minds_48 (fun a5 => ?_)
    refine gx_bipush (90 : Int32) dX11_minds_51 (by decide) ?_
    refine gx_dup2 dX11_minds_53 rfl rfl ?_
    refine gx_iald dX11_minds_54 (fun x6 => ?_)
    refine gx_iconst (1 : Int32) dX11_minds_55 (by decide) ?_
    refine gx_isub dX11_minds_56 ?_
    refine gx_iast dX11_minds_57 (fun h7 => ?_)
    exact gx_sub (gX11_minds_58 v0 h7) (And.intro rfl True.intro)
  · refine gx_aload_n 0 dX11_minds_20 rfl rfl ?_
    refine gx_getR kf_RX11_7 dX11_minds_21 (fun a8 => ?_)
    refine gx_bipush (91 : Int32) dX11_minds_24 (by decide) ?_
    refine gx_iload_n 1 dX11_minds_26 rfl rfl ?_
    refine gx_iadd dX11_minds_27 ?_
    refine gx_aload_n 0 dX11_minds_28 rfl rfl ?_
    refine gx_getR kf_RX11_7 dX11_minds_29 (fun a9 => ?_)
    refine gx_bipush (91 : Int32) dX11_minds_32 (by decide) ?_
    refine gx_iload_n 1 dX11_minds_34 rfl rfl ?_
    refine gx_iadd dX11_minds_35 ?_
    refine gx_bipush (14 : Int32) dX11_minds_36 (by decide) ?_
    refine gx_iadd dX11_minds_38 ?_
    refine gx_iald dX11_minds_39 (fun x10 => ?_)
    refine gx_iast dX11_minds_40 (fun h11 => ?_)
    refine gx_iinc (1 : Int32) [some (.ref v0), some (.int (v1 + (1 : Int32))), none] dX11_minds_41 rfl (by decide) (by decide) rfl ?_
    refine gx_goto 14 dX11_minds_44 (by decide) ?_
    exact gx_sub (hk14 v0 (v1 + (1 : Int32)) h11) (And.intro rfl (And.intro rfl True.intro))
set_option maxRecDepth 100000 in
set_option maxHeartbeats 4000000 in
theorem gX11_minds_14 {E : gx_Env} {d : Nat}  : ∀ (n : Nat) (v0 : Nat) (v1 : Int32) (h : gx_H), gx_G E RX11 cX11_minds 3 none false d 0 0 14 [some (.ref v0), some (.int v1), none] [] h (fun _ : Unit => none) (fX11_minds_14 n v0 v1 h) := by
  intro n
  induction n with
  | zero => intro v0 v1 h; exact gx_none
  | succ n ih => exact gbX11_minds_14  (fX11_minds_14  n) ih
set_option maxRecDepth 100000 in
set_option maxHeartbeats 4000000 in
theorem geX11_minds {E : gx_Env} {d : Nat} (v0 : Nat) (h : gx_H) : gx_G E RX11 cX11_minds 3 none false d 0 0 0 [some (.ref v0), none, none] [] h (fun _ : Unit => none) (fX11_minds v0 h) := by
  unfold fX11_minds
  refine gx_bind fun _ _ => ?_
  refine gx_aload_n 0 dX11_minds_0 rfl rfl ?_
  refine gx_getR kf_RX11_7 dX11_minds_1 (fun a1 => ?_)
  refine gx_bipush (90 : Int32) dX11_minds_4 (by decide) ?_
  refine gx_iald dX11_minds_6 (fun x2 => ?_)
  refine gx_bipush (8 : Int32) dX11_minds_7 (by decide) ?_
  refine gx_icmp_ne 58 dX11_minds_9 (by decide) (fun _ => ?_) (fun _ => ?_)
  · exact gx_sub (gX11_minds_58 v0 h) (And.intro rfl True.intro)
  · refine gx_iconst (0 : Int32) dX11_minds_12 (by decide) ?_
    refine gx_istore_n 1 [some (.ref v0), some (.int (0 : Int32)), none] dX11_minds_13 rfl (by decide) rfl ?_
    exact gx_sub (gX11_minds_14 gx_N v0 (0 : Int32) h) (And.intro rfl (And.intro rfl True.intro))
theorem okX11_minds {E : gx_Env} (d : Nat) {v0 : Nat} {h : gx_H} {r : Unit} {h1 : gx_H} (q : fX11_minds v0 h = some (r, h1)) : gx_M E yX11_minds cX11_minds 3 none d 0 0 [.ref v0] h ((fun _ : Unit => none) r) h1 := gx_meth (y := yX11_minds) (cc := cX11_minds) (nL := 3) (em := (fun _ : Unit => none)) (ini := false) [.ref v0] (by decide) (by simp [gx_sl]) (fun q => by cases q) (geX11_minds v0 h) q
theorem dX11_rolls_0 : decode cX11_rolls 0 = .ok (.aload_n 0, 1) := by decide +kernel
theorem dX11_rolls_1 : decode cX11_rolls 1 = .ok (.iload_n 1, 1) := by decide +kernel
theorem dX11_rolls_2 : decode cX11_rolls 2 = .ok (.invokevirtual 185, 3) := by decide +kernel
theorem dX11_rolls_5 : decode cX11_rolls 5 = .ok (.ifCond .eq 11, 3) := by decide +kernel
theorem dX11_rolls_8 : decode cX11_rolls 8 = .ok (.aload_n 0, 1) := by decide +kernel
theorem dX11_rolls_9 : decode cX11_rolls 9 = .ok (.iload_n 2, 1) := by decide +kernel
theorem dX11_rolls_10 : decode cX11_rolls 10 = .ok (.invokevirtual 188, 3) := by decide +kernel
theorem dX11_rolls_13 : decode cX11_rolls 13 = .ok (.ifCond .ne 10, 3) := by decide +kernel
theorem dX11_rolls_16 : decode cX11_rolls 16 = .ok (.aload_n 0, 1) := by decide +kernel
theorem dX11_rolls_17 : decode cX11_rolls 17 = .ok (.bipush (-2), 2) := by decide +kernel
theorem dX11_rolls_19 : decode cX11_rolls 19 = .ok (.invokevirtual 81, 3) := by decide +kernel
theorem dX11_rolls_22 : decode cX11_rolls 22 = .ok (.ireturn, 1) := by decide +kernel
theorem dX11_rolls_23 : decode cX11_rolls 23 = .ok (.aload_n 0, 1) := by decide +kernel
theorem dX11_rolls_24 : decode cX11_rolls 24 = .ok (.iconst 0, 1) := by decide +kernel
theorem dX11_rolls_25 : decode cX11_rolls 25 = .ok (.iload_n 1, 1) := by decide +kernel
theorem dX11_rolls_26 : decode cX11_rolls 26 = .ok (.invokevirtual 57, 3) := by decide +kernel
theorem dX11_rolls_29 : decode cX11_rolls 29 = .ok (.ifCond .eq 8, 3) := by decide +kernel
theorem dX11_rolls_32 : decode cX11_rolls 32 = .ok (.aload_n 0, 1) := by decide +kernel
theorem dX11_rolls_33 : decode cX11_rolls 33 = .ok (.invokevirtual 94, 3) := by decide +kernel
theorem dX11_rolls_36 : decode cX11_rolls 36 = .ok (.ireturn, 1) := by decide +kernel
theorem dX11_rolls_37 : decode cX11_rolls 37 = .ok (.aload_n 0, 1) := by decide +kernel
theorem dX11_rolls_38 : decode cX11_rolls 38 = .ok (.invokevirtual 191, 3) := by decide +kernel
theorem dX11_rolls_41 : decode cX11_rolls 41 = .ok (.aload_n 0, 1) := by decide +kernel
theorem dX11_rolls_42 : decode cX11_rolls 42 = .ok (.iconst 0, 1) := by decide +kernel
theorem dX11_rolls_43 : decode cX11_rolls 43 = .ok (.iload_n 1, 1) := by decide +kernel
theorem dX11_rolls_44 : decode cX11_rolls 44 = .ok (.iload_n 2, 1) := by decide +kernel
theorem dX11_rolls_45 : decode cX11_rolls 45 = .ok (.invokevirtual 149, 3) := by decide +kernel
theorem dX11_rolls_48 : decode cX11_rolls 48 = .ok (.aload_n 0, 1) := by decide +kernel
theorem dX11_rolls_49 : decode cX11_rolls 49 = .ok (.getfield 7, 3) := by decide +kernel
theorem dX11_rolls_52 : decode cX11_rolls 52 = .ok (.bipush 32, 2) := by decide +kernel
theorem dX11_rolls_54 : decode cX11_rolls 54 = .ok (.iload_n 1, 1) := by decide +kernel
theorem dX11_rolls_55 : decode cX11_rolls 55 = .ok (.iadd, 1) := by decide +kernel
theorem dX11_rolls_56 : decode cX11_rolls 56 = .ok (.iaload, 1) := by decide +kernel
theorem dX11_rolls_57 : decode cX11_rolls 57 = .ok (.ireturn, 1) := by decide +kernel
def fX11_rolls_16 (v0 : Nat) (h : gx_H) : Option (Int32 × gx_H) :=
  gx_bd (fX11_bad v0 (-2 : Int32) h) fun x16 h15 =>
  some (x16, h15)
def fX11_rolls (v0 : Nat) (v1 : Int32) (v2 : Int32) (h : gx_H) : Option (Int32 × gx_H) :=
  (gx_isO h v0 9).bind fun _ =>
  gx_bd (fX11_isPlayer v0 v1 h) fun x2 h1 =>
  if x2 = 0 then
    fX11_rolls_16 v0 h1
  else
    gx_bd (fX11_isSide v0 v2 h1) fun x4 h3 =>
    if x4 = 0 then
      fX11_rolls_16 v0 h3
    else
      gx_bd (fX11_isHome v0 (0 : Int32) v1 h3) fun x6 h5 =>
      if x6 = 0 then
        gx_bd (fX11_minds v0 h5) fun u8 h7 =>
        gx_bd (fX11_throwsOne v0 (0 : Int32) v1 v2 h7) fun u10 h9 =>
        (gx_fR h9 v0 9 0).bind fun a11 =>
        (gx_aI 0 h9 a11 ((32 : Int32) + v1)).bind fun x12 =>
        some (x12, h9)
      else
        gx_bd (fX11_no v0 h5) fun x14 h13 =>
        some (x14, h13)
set_option maxRecDepth 100000 in
set_option maxHeartbeats 4000000 in
theorem gX11_rolls_16 {E : gx_Env} {d : Nat}  : ∀ (v0 : Nat) (h : gx_H), gx_G E RX11 cX11_rolls 3 (some .int) false (d + 4) 0 0 16 [some (.ref v0), none, none] [] h (fun x : Int32 => some (.int x)) (fX11_rolls_16 v0 h) := by
  intro v0 h
  unfold fX11_rolls_16
  refine gx_aload_n 0 dX11_rolls_16 rfl rfl ?_
  refine gx_bipush (-2 : Int32) dX11_rolls_17 (by decide) ?_
  refine gx_callV (ci := 9) (bc := 0) (bs := 0) (mc := 0) (ms := 0) (em' := (fun x : Int32 => some (.int x))) [.int (-2 : Int32)] kc_RX11_81 rfl dX11_rolls_19 rfl rfl (gx_w8 rfl) (fun x q => (gx_isO_of (by unfold fX11_bad at q; exact q)).2) (fun _ _ q => okX11_bad (d + 3) q) (fun x16 h15 => ?_)
  exact gx_iret dX11_rolls_22 rfl
set_option maxRecDepth 100000 in
set_option maxHeartbeats 4000000 in
theorem geX11_rolls {E : gx_Env} {d : Nat} (v0 : Nat) (v1 : Int32) (v2 : Int32) (h : gx_H) : gx_G E RX11 cX11_rolls 3 (some .int) false (d + 4) 0 0 0 [some (.ref v0), some (.int v1), some (.int v2)] [] h (fun x : Int32 => some (.int x)) (fX11_rolls v0 v1 v2 h) := by
  unfold fX11_rolls
  refine gx_bind fun _ _ => ?_
  refine gx_aload_n 0 dX11_rolls_0 rfl rfl ?_
  refine gx_iload_n 1 dX11_rolls_1 rfl rfl ?_
  refine gx_callV (ci := 9) (bc := 0) (bs := 0) (mc := 0) (ms := 0) (em' := (fun x : Int32 => some (.int x))) [.int v1] kc_RX11_185 rfl dX11_rolls_2 rfl rfl (gx_w8 rfl) (fun x q => (gx_isO_of (by unfold fX11_isPlayer at q; exact q)).2) (fun _ _ q => okX11_isPlayer (d + 2) q) (fun x2 h1 => ?_)
  refine gx_if_eq 16 dX11_rolls_5 (by decide) (fun _ => ?_) (fun _ => ?_)
  · exact gx_sub (gX11_rolls_16 v0 h1) (And.intro rfl True.intro)
  · refine gx_aload_n 0 dX11_rolls_8 rfl rfl ?_
    refine gx_iload_n 2 dX11_rolls_9 rfl rfl ?_
    refine gx_callV (ci := 9) (bc := 0) (bs := 0) (mc := 0) (ms := 0) (em' := (fun x : Int32 => some (.int x))) [.int v2] kc_RX11_188 rfl dX11_rolls_10 rfl rfl (gx_w8 rfl) (fun x q => (gx_isO_of (by unfold fX11_isSide at q; exact q)).2) (fun _ _ q => okX11_isSide (d + 2) q) (fun x4 h3 => ?_)
    refine gx_if_ne 23 dX11_rolls_13 (by decide) (fun _ => ?_) (fun _ => ?_)
    · refine gx_aload_n 0 dX11_rolls_23 rfl rfl ?_
      refine gx_iconst (0 : Int32) dX11_rolls_24 (by decide) ?_
      refine gx_iload_n 1 dX11_rolls_25 rfl rfl ?_
      refine gx_callV (ci := 9) (bc := 0) (bs := 0) (mc := 0) (ms := 0) (em' := (fun x : Int32 => some (.int x))) [.int (0 : Int32), .int v1] kc_RX11_57 rfl dX11_rolls_26 rfl rfl (gx_w8 rfl) (fun x q => (gx_isO_of (by unfold fX11_isHome at q; exact q)).2) (fun _ _ q => okX11_isHome (d + 3) q) (fun x6 h5 => ?_)
      refine gx_if_eq 37 dX11_rolls_29 (by decide) (fun _ => ?_) (fun _ => ?_)
      · refine gx_aload_n 0 dX11_rolls_37 rfl rfl ?_
        refine gx_callV (ci := 9) (bc := 0) (bs := 0) (mc := 0) (ms := 0) (em' := (fun _ : Unit => none)) [] kc_RX11_191 rfl dX11_rolls_38 rfl rfl (gx_w8 rfl) (fun x q => (gx_isO_of (by unfold fX11_minds at q; exact q)).2) (fun _ _ q => okX11_minds (d + 3) q) (fun u8 h7 => ?_)
        refine gx_aload_n 0 dX11_rolls_41 rfl rfl ?_
        refine gx_iconst (0 : Int32) dX11_rolls_42 (by decide) ?_
        refine gx_iload_n 1 dX11_rolls_43 rfl rfl ?_
        refine gx_iload_n 2 dX11_rolls_44 rfl rfl ?_
        refine gx_callV (ci := 9) (bc := 0) (bs := 0) (mc := 0) (ms := 0) (em' := (fun _ : Unit => none)) [.int (0 : Int32), .int v1, .int v2] kc_RX11_149 rfl dX11_rolls_45 rfl rfl (gx_w8 rfl) (fun x q => (gx_isO_of (by unfold fX11_throwsOne at q; exact q)).2) (fun _ _ q => okX11_throwsOne d q) (fun u10 h9 => ?_)
        refine gx_aload_n 0 dX11_rolls_48 rfl rfl ?_
        refine gx_getR kf_RX11_7 dX11_rolls_49 (fun a11 => ?_)
        refine gx_bipush (32 : Int32) dX11_rolls_52 (by decide) ?_
        refine gx_iload_n 1 dX11_rolls_54 rfl rfl ?_
        refine gx_iadd dX11_rolls_55 ?_
        refine gx_iald dX11_rolls_56 (fun x12 => ?_)
        exact gx_iret dX11_rolls_57 rfl
      · refine gx_aload_n 0 dX11_rolls_32 rfl rfl ?_
        refine gx_callV (ci := 9) (bc := 0) (bs := 0) (mc := 0) (ms := 0) (em' := (fun x : Int32 => some (.int x))) [] kc_RX11_94 rfl dX11_rolls_33 rfl rfl (gx_w8 rfl) (fun x q => (gx_isO_of (by unfold fX11_no at q; exact q)).2) (fun _ _ q => okX11_no (d + 3) q) (fun x14 h13 => ?_)
        exact gx_iret dX11_rolls_36 rfl
    · exact gx_sub (gX11_rolls_16 v0 h3) (And.intro rfl True.intro)
theorem okX11_rolls {E : gx_Env} (d : Nat) {v0 : Nat} {v1 : Int32} {v2 : Int32} {h : gx_H} {r : Int32} {h1 : gx_H} (q : fX11_rolls v0 v1 v2 h = some (r, h1)) : gx_M E yX11_rolls cX11_rolls 3 (some .int) (d + 4) 0 0 [.ref v0, .int v1, .int v2] h ((fun x : Int32 => some (.int x)) r) h1 := gx_meth (y := yX11_rolls) (cc := cX11_rolls) (nL := 3) (em := (fun x : Int32 => some (.int x))) (ini := false) [.ref v0, .int v1, .int v2] (by decide) (by simp [gx_sl]) (fun q => by cases q) (geX11_rolls v0 v1 v2 h) q
theorem dX11_sets_0 : decode cX11_sets 0 = .ok (.aload_n 0, 1) := by decide +kernel
theorem dX11_sets_1 : decode cX11_sets 1 = .ok (.iload_n 1, 1) := by decide +kernel
theorem dX11_sets_2 : decode cX11_sets 2 = .ok (.invokevirtual 185, 3) := by decide +kernel
theorem dX11_sets_5 : decode cX11_sets 5 = .ok (.ifCond .eq 11, 3) := by decide +kernel
theorem dX11_sets_8 : decode cX11_sets 8 = .ok (.aload_n 0, 1) := by decide +kernel
theorem dX11_sets_9 : decode cX11_sets 9 = .ok (.iload_n 2, 1) := by decide +kernel
theorem dX11_sets_10 : decode cX11_sets 10 = .ok (.invokevirtual 90, 3) := by decide +kernel
theorem dX11_sets_13 : decode cX11_sets 13 = .ok (.ifCond .ne 10, 3) := by decide +kernel
theorem dX11_sets_16 : decode cX11_sets 16 = .ok (.aload_n 0, 1) := by decide +kernel
theorem dX11_sets_17 : decode cX11_sets 17 = .ok (.bipush (-2), 2) := by decide +kernel
theorem dX11_sets_19 : decode cX11_sets 19 = .ok (.invokevirtual 81, 3) := by decide +kernel
theorem dX11_sets_22 : decode cX11_sets 22 = .ok (.ireturn, 1) := by decide +kernel
theorem dX11_sets_23 : decode cX11_sets 23 = .ok (.aload_n 0, 1) := by decide +kernel
theorem dX11_sets_24 : decode cX11_sets 24 = .ok (.getfield 7, 3) := by decide +kernel
theorem dX11_sets_27 : decode cX11_sets 27 = .ok (.bipush 32, 2) := by decide +kernel
theorem dX11_sets_29 : decode cX11_sets 29 = .ok (.iload_n 1, 1) := by decide +kernel
theorem dX11_sets_30 : decode cX11_sets 30 = .ok (.iadd, 1) := by decide +kernel
theorem dX11_sets_31 : decode cX11_sets 31 = .ok (.iaload, 1) := by decide +kernel
theorem dX11_sets_32 : decode cX11_sets 32 = .ok (.istore_n 3, 1) := by decide +kernel
theorem dX11_sets_33 : decode cX11_sets 33 = .ok (.iload_n 3, 1) := by decide +kernel
theorem dX11_sets_34 : decode cX11_sets 34 = .ok (.iload_n 2, 1) := by decide +kernel
theorem dX11_sets_35 : decode cX11_sets 35 = .ok (.if_icmp .ne 8, 3) := by decide +kernel
theorem dX11_sets_38 : decode cX11_sets 38 = .ok (.aload_n 0, 1) := by decide +kernel
theorem dX11_sets_39 : decode cX11_sets 39 = .ok (.invokevirtual 94, 3) := by decide +kernel
theorem dX11_sets_42 : decode cX11_sets 42 = .ok (.ireturn, 1) := by decide +kernel
theorem dX11_sets_43 : decode cX11_sets 43 = .ok (.aload_n 0, 1) := by decide +kernel
theorem dX11_sets_44 : decode cX11_sets 44 = .ok (.invokevirtual 191, 3) := by decide +kernel
theorem dX11_sets_47 : decode cX11_sets 47 = .ok (.aload_n 0, 1) := by decide +kernel
theorem dX11_sets_48 : decode cX11_sets 48 = .ok (.getfield 7, 3) := by decide +kernel
theorem dX11_sets_51 : decode cX11_sets 51 = .ok (.bipush 32, 2) := by decide +kernel
theorem dX11_sets_53 : decode cX11_sets 53 = .ok (.iload_n 1, 1) := by decide +kernel
theorem dX11_sets_54 : decode cX11_sets 54 = .ok (.iadd, 1) := by decide +kernel
theorem dX11_sets_55 : decode cX11_sets 55 = .ok (.iload_n 2, 1) := by decide +kernel
theorem dX11_sets_56 : decode cX11_sets 56 = .ok (.iastore, 1) := by decide +kernel
theorem dX11_sets_57 : decode cX11_sets 57 = .ok (.iload_n 3, 1) := by decide +kernel
theorem dX11_sets_58 : decode cX11_sets 58 = .ok (.ireturn, 1) := by decide +kernel
def fX11_sets_16 (v0 : Nat) (h : gx_H) : Option (Int32 × gx_H) :=
  gx_bd (fX11_bad v0 (-2 : Int32) h) fun x14 h13 =>
  some (x14, h13)
def fX11_sets (v0 : Nat) (v1 : Int32) (v2 : Int32) (h : gx_H) : Option (Int32 × gx_H) :=
  (gx_isO h v0 9).bind fun _ =>
  gx_bd (fX11_isPlayer v0 v1 h) fun x2 h1 =>
  if x2 = 0 then
    fX11_sets_16 v0 h1
  else
    gx_bd (fX11_isSquare v0 v2 h1) fun x4 h3 =>
    if x4 = 0 then
      fX11_sets_16 v0 h3
    else
      (gx_fR h3 v0 9 0).bind fun a5 =>
      (gx_aI 0 h3 a5 ((32 : Int32) + v1)).bind fun x6 =>
      if x6 = v2 then
        gx_bd (fX11_no v0 h3) fun x12 h11 =>
        some (x12, h11)
      else
        gx_bd (fX11_minds v0 h3) fun u8 h7 =>
        (gx_fR h7 v0 9 0).bind fun a9 =>
        (gx_sI 0 h7 a9 ((32 : Int32) + v1) v2).bind fun h10 =>
        some (x6, h10)
set_option maxRecDepth 100000 in
set_option maxHeartbeats 4000000 in
theorem gX11_sets_16 {E : gx_Env} {d : Nat}  : ∀ (v0 : Nat) (h : gx_H), gx_G E RX11 cX11_sets 4 (some .int) false (d + 2) 0 0 16 [some (.ref v0), none, none, none] [] h (fun x : Int32 => some (.int x)) (fX11_sets_16 v0 h) := by
  intro v0 h
  unfold fX11_sets_16
  refine gx_aload_n 0 dX11_sets_16 rfl rfl ?_
  refine gx_bipush (-2 : Int32) dX11_sets_17 (by decide) ?_
  refine gx_callV (ci := 9) (bc := 0) (bs := 0) (mc := 0) (ms := 0) (em' := (fun x : Int32 => some (.int x))) [.int (-2 : Int32)] kc_RX11_81 rfl dX11_sets_19 rfl rfl (gx_w8 rfl) (fun x q => (gx_isO_of (by unfold fX11_bad at q; exact q)).2) (fun _ _ q => okX11_bad (d + 1) q) (fun x14 h13 => ?_)
  exact gx_iret dX11_sets_22 rfl
set_option maxRecDepth 100000 in
set_option maxHeartbeats 4000000 in
theorem geX11_sets {E : gx_Env} {d : Nat} (v0 : Nat) (v1 : Int32) (v2 : Int32) (h : gx_H) : gx_G E RX11 cX11_sets 4 (some .int) false (d + 2) 0 0 0 [some (.ref v0), some (.int v1), some (.int v2), none] [] h (fun x : Int32 => some (.int x)) (fX11_sets v0 v1 v2 h) := by
  unfold fX11_sets
  refine gx_bind fun _ _ => ?_
  refine gx_aload_n 0 dX11_sets_0 rfl rfl ?_
  refine gx_iload_n 1 dX11_sets_1 rfl rfl ?_
  refine gx_callV (ci := 9) (bc := 0) (bs := 0) (mc := 0) (ms := 0) (em' := (fun x : Int32 => some (.int x))) [.int v1] kc_RX11_185 rfl dX11_sets_2 rfl rfl (gx_w8 rfl) (fun x q => (gx_isO_of (by unfold fX11_isPlayer at q; exact q)).2) (fun _ _ q => okX11_isPlayer d q) (fun x2 h1 => ?_)
  refine gx_if_eq 16 dX11_sets_5 (by decide) (fun _ => ?_) (fun _ => ?_)
  · exact gx_sub (gX11_sets_16 v0 h1) (And.intro rfl True.intro)
  · refine gx_aload_n 0 dX11_sets_8 rfl rfl ?_
    refine gx_iload_n 2 dX11_sets_9 rfl rfl ?_
    refine gx_callV (ci := 9) (bc := 0) (bs := 0) (mc := 0) (ms := 0) (em' := (fun x : Int32 => some (.int x))) [.int v2] kc_RX11_90 rfl dX11_sets_10 rfl rfl (gx_w8 rfl) (fun x q => (gx_isO_of (by unfold fX11_isSquare at q; exact q)).2) (fun _ _ q => okX11_isSquare d q) (fun x4 h3 => ?_)
    refine gx_if_ne 23 dX11_sets_13 (by decide) (fun _ => ?_) (fun _ => ?_)
    · refine gx_aload_n 0 dX11_sets_23 rfl rfl ?_
      refine gx_getR kf_RX11_7 dX11_sets_24 (fun a5 => ?_)
      refine gx_bipush (32 : Int32) dX11_sets_27 (by decide) ?_
      refine gx_iload_n 1 dX11_sets_29 rfl rfl ?_
      refine gx_iadd dX11_sets_30 ?_
      refine gx_iald dX11_sets_31 (fun x6 => ?_)
      refine gx_istore_n 3 [some (.ref v0), some (.int v1), some (.int v2), some (.int x6)] dX11_sets_32 rfl (by decide) rfl ?_
      refine gx_iload_n 3 dX11_sets_33 rfl rfl ?_
      refine gx_iload_n 2 dX11_sets_34 rfl rfl ?_
      refine gx_icmp_ne 43 dX11_sets_35 (by decide) (fun _ => ?_) (fun _ => ?_)
      · refine gx_aload_n 0 dX11_sets_43 rfl rfl ?_
        refine gx_callV (ci := 9) (bc := 0) (bs := 0) (mc := 0) (ms := 0) (em' := (fun _ : Unit => none)) [] kc_RX11_191 rfl dX11_sets_44 rfl rfl (gx_w8 rfl) (fun x q => (gx_isO_of (by unfold fX11_minds at q; exact q)).2) (fun _ _ q => okX11_minds (d + 1) q) (fun u8 h7 => ?_)
        refine gx_aload_n 0 dX11_sets_47 rfl rfl ?_
        refine gx_getR kf_RX11_7 dX11_sets_48 (fun a9 => ?_)
        refine gx_bipush (32 : Int32) dX11_sets_51 (by decide) ?_
        refine gx_iload_n 1 dX11_sets_53 rfl rfl ?_
        refine gx_iadd dX11_sets_54 ?_
        refine gx_iload_n 2 dX11_sets_55 rfl rfl ?_
        refine gx_iast dX11_sets_56 (fun h10 => ?_)
        refine gx_iload_n 3 dX11_sets_57 rfl rfl ?_
        exact gx_iret dX11_sets_58 rfl
      · refine gx_aload_n 0 dX11_sets_38 rfl rfl ?_
        refine gx_callV (ci := 9) (bc := 0) (bs := 0) (mc := 0) (ms := 0) (em' := (fun x : Int32 => some (.int x))) [] kc_RX11_94 rfl dX11_sets_39 rfl rfl (gx_w8 rfl) (fun x q => (gx_isO_of (by unfold fX11_no at q; exact q)).2) (fun _ _ q => okX11_no (d + 1) q) (fun x12 h11 => ?_)
        exact gx_iret dX11_sets_42 rfl
    · exact gx_sub (gX11_sets_16 v0 h3) (And.intro rfl True.intro)
theorem okX11_sets {E : gx_Env} (d : Nat) {v0 : Nat} {v1 : Int32} {v2 : Int32} {h : gx_H} {r : Int32} {h1 : gx_H} (q : fX11_sets v0 v1 v2 h = some (r, h1)) : gx_M E yX11_sets cX11_sets 4 (some .int) (d + 2) 0 0 [.ref v0, .int v1, .int v2] h ((fun x : Int32 => some (.int x)) r) h1 := gx_meth (y := yX11_sets) (cc := cX11_sets) (nL := 4) (em := (fun x : Int32 => some (.int x))) (ini := false) [.ref v0, .int v1, .int v2] (by decide) (by simp [gx_sl]) (fun q => by cases q) (geX11_sets v0 v1 v2 h) q
