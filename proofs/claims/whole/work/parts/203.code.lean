theorem dX10_leftOver_0 : decode cX10_leftOver 0 = .ok (.iload_n 2, 1) := by decide +kernel
theorem dX10_leftOver_1 : decode cX10_leftOver 1 = .ok (.iconst 1, 1) := by decide +kernel
theorem dX10_leftOver_2 : decode cX10_leftOver 2 = .ok (.if_icmp .ge 7, 3) := by decide +kernel
theorem dX10_leftOver_5 : decode cX10_leftOver 5 = .ok (.iconst 0, 1) := by decide +kernel
theorem dX10_leftOver_6 : decode cX10_leftOver 6 = .ok (.goto 8, 3) := by decide +kernel
theorem dX10_leftOver_9 : decode cX10_leftOver 9 = .ok (.lload_n 0, 1) := by decide +kernel
theorem dX10_leftOver_10 : decode cX10_leftOver 10 = .ok (.iload_n 2, 1) := by decide +kernel
theorem dX10_leftOver_11 : decode cX10_leftOver 11 = .ok (.i2l, 1) := by decide +kernel
theorem dX10_leftOver_12 : decode cX10_leftOver 12 = .ok (.lrem, 1) := by decide +kernel
theorem dX10_leftOver_13 : decode cX10_leftOver 13 = .ok (.l2i, 1) := by decide +kernel
theorem dX10_leftOver_14 : decode cX10_leftOver 14 = .ok (.ireturn, 1) := by decide +kernel
def fX10_leftOver_14 (s0 : Int32) (h : gx_H) : Option (Int32 × gx_H) :=
  some (s0, h)
def fX10_leftOver (v0 : Int64) (v2 : Int32) (h : gx_H) : Option (Int32 × gx_H) :=
  if (1 : Int32) ≤ v2 then
    (gx_rJ v0 ((v2).toInt64)).bind fun z1 =>
    fX10_leftOver_14 ((z1).toInt32) h
  else
    fX10_leftOver_14 (0 : Int32) h
set_option maxRecDepth 100000 in
set_option maxHeartbeats 4000000 in
theorem gX10_leftOver_14 {E : gx_Env} {d : Nat}  : ∀ (s0 : Int32) (h : gx_H), gx_G E RX10 cX10_leftOver 3 (some .int) false d 0 0 14 [none, none, none] [.int s0] h (fun x : Int32 => some (.int x)) (fX10_leftOver_14 s0 h) := by
  intro s0 h
  unfold fX10_leftOver_14
  exact gx_iret dX10_leftOver_14 rfl
set_option maxRecDepth 100000 in
set_option maxHeartbeats 4000000 in
theorem geX10_leftOver {E : gx_Env} {d : Nat} (v0 : Int64) (v2 : Int32) (h : gx_H) : gx_G E RX10 cX10_leftOver 3 (some .int) false d 0 0 0 [some (.long v0), none, some (.int v2)] [] h (fun x : Int32 => some (.int x)) (fX10_leftOver v0 v2 h) := by
  unfold fX10_leftOver
  refine gx_iload_n 2 dX10_leftOver_0 rfl rfl ?_
  refine gx_iconst (1 : Int32) dX10_leftOver_1 (by decide) ?_
  refine gx_icmp_ge 9 dX10_leftOver_2 (by decide) (fun _ => ?_) (fun _ => ?_)
  · refine gx_lload_n 0 dX10_leftOver_9 rfl rfl ?_
    refine gx_iload_n 2 dX10_leftOver_10 rfl rfl ?_
    refine gx_i2l dX10_leftOver_11 ?_
    refine gx_lrem dX10_leftOver_12 (fun z1 => ?_)
    refine gx_l2i dX10_leftOver_13 ?_
    exact gx_sub (gX10_leftOver_14 ((z1).toInt32) h) True.intro
  · refine gx_iconst (0 : Int32) dX10_leftOver_5 (by decide) ?_
    refine gx_goto 14 dX10_leftOver_6 (by decide) ?_
    exact gx_sub (gX10_leftOver_14 (0 : Int32) h) True.intro
theorem okX10_leftOver {E : gx_Env} (d : Nat) {v0 : Int64} {v2 : Int32} {h : gx_H} {r : Int32} {h1 : gx_H} (q : fX10_leftOver v0 v2 h = some (r, h1)) : gx_M E yX10_leftOver cX10_leftOver 3 (some .int) d 0 0 [.long v0, .int v2] h ((fun x : Int32 => some (.int x)) r) h1 := gx_meth (y := yX10_leftOver) (cc := cX10_leftOver) (nL := 3) (em := (fun x : Int32 => some (.int x))) (ini := false) [.long v0, .int v2] (by decide) (by simp [gx_sl]) (fun q => by cases q) (geX10_leftOver v0 v2 h) q
theorem dX5_homesBySeed_0 : decode cX5_homesBySeed 0 = .ok (.aload_n 0, 1) := by decide +kernel
theorem dX5_homesBySeed_1 : decode cX5_homesBySeed 1 = .ok (.getfield 12, 3) := by decide +kernel
theorem dX5_homesBySeed_4 : decode cX5_homesBySeed 4 = .ok (.aload_n 1, 1) := by decide +kernel
theorem dX5_homesBySeed_5 : decode cX5_homesBySeed 5 = .ok (.invokevirtual 48, 3) := by decide +kernel
theorem dX5_homesBySeed_8 : decode cX5_homesBySeed 8 = .ok (.iload_n 2, 1) := by decide +kernel
theorem dX5_homesBySeed_9 : decode cX5_homesBySeed 9 = .ok (.i2l, 1) := by decide +kernel
theorem dX5_homesBySeed_10 : decode cX5_homesBySeed 10 = .ok (.lstore 4, 2) := by decide +kernel
theorem dX5_homesBySeed_12 : decode cX5_homesBySeed 12 = .ok (.iconst 0, 1) := by decide +kernel
theorem dX5_homesBySeed_13 : decode cX5_homesBySeed 13 = .ok (.istore 6, 2) := by decide +kernel
theorem dX5_homesBySeed_15 : decode cX5_homesBySeed 15 = .ok (.iload 6, 2) := by decide +kernel
theorem dX5_homesBySeed_17 : decode cX5_homesBySeed 17 = .ok (.iload_n 3, 1) := by decide +kernel
theorem dX5_homesBySeed_18 : decode cX5_homesBySeed 18 = .ok (.if_icmp .ge 85, 3) := by decide +kernel
theorem dX5_homesBySeed_21 : decode cX5_homesBySeed 21 = .ok (.lload 4, 2) := by decide +kernel
theorem dX5_homesBySeed_23 : decode cX5_homesBySeed 23 = .ok (.ldc2_w 132, 3) := by decide +kernel
theorem dX5_homesBySeed_26 : decode cX5_homesBySeed 26 = .ok (.lmul, 1) := by decide +kernel
theorem dX5_homesBySeed_27 : decode cX5_homesBySeed 27 = .ok (.ldc2_w 134, 3) := by decide +kernel
theorem dX5_homesBySeed_30 : decode cX5_homesBySeed 30 = .ok (.ladd, 1) := by decide +kernel
theorem dX5_homesBySeed_31 : decode cX5_homesBySeed 31 = .ok (.ldc2_w 136, 3) := by decide +kernel
theorem dX5_homesBySeed_34 : decode cX5_homesBySeed 34 = .ok (.lrem, 1) := by decide +kernel
theorem dX5_homesBySeed_35 : decode cX5_homesBySeed 35 = .ok (.lstore 4, 2) := by decide +kernel
theorem dX5_homesBySeed_37 : decode cX5_homesBySeed 37 = .ok (.lload 4, 2) := by decide +kernel
theorem dX5_homesBySeed_39 : decode cX5_homesBySeed 39 = .ok (.ldc2_w 138, 3) := by decide +kernel
theorem dX5_homesBySeed_42 : decode cX5_homesBySeed 42 = .ok (.ldiv, 1) := by decide +kernel
theorem dX5_homesBySeed_43 : decode cX5_homesBySeed 43 = .ok (.iconst 4, 1) := by decide +kernel
theorem dX5_homesBySeed_44 : decode cX5_homesBySeed 44 = .ok (.invokestatic 140, 3) := by decide +kernel
theorem dX5_homesBySeed_47 : decode cX5_homesBySeed 47 = .ok (.istore 7, 2) := by decide +kernel
theorem dX5_homesBySeed_49 : decode cX5_homesBySeed 49 = .ok (.iload 7, 2) := by decide +kernel
theorem dX5_homesBySeed_51 : decode cX5_homesBySeed 51 = .ok (.iconst 0, 1) := by decide +kernel
theorem dX5_homesBySeed_52 : decode cX5_homesBySeed 52 = .ok (.aload_n 0, 1) := by decide +kernel
theorem dX5_homesBySeed_53 : decode cX5_homesBySeed 53 = .ok (.getfield 12, 3) := by decide +kernel
theorem dX5_homesBySeed_56 : decode cX5_homesBySeed 56 = .ok (.getfield 144, 3) := by decide +kernel
theorem dX5_homesBySeed_59 : decode cX5_homesBySeed 59 = .ok (.iconst 1, 1) := by decide +kernel
theorem dX5_homesBySeed_60 : decode cX5_homesBySeed 60 = .ok (.isub, 1) := by decide +kernel
theorem dX5_homesBySeed_61 : decode cX5_homesBySeed 61 = .ok (.invokestatic 56, 3) := by decide +kernel
theorem dX5_homesBySeed_64 : decode cX5_homesBySeed 64 = .ok (.ifCond .eq 33, 3) := by decide +kernel
theorem dX5_homesBySeed_67 : decode cX5_homesBySeed 67 = .ok (.aload_n 0, 1) := by decide +kernel
theorem dX5_homesBySeed_68 : decode cX5_homesBySeed 68 = .ok (.iload 7, 2) := by decide +kernel
theorem dX5_homesBySeed_70 : decode cX5_homesBySeed 70 = .ok (.lload 4, 2) := by decide +kernel
theorem dX5_homesBySeed_72 : decode cX5_homesBySeed 72 = .ok (.ldc2_w 147, 3) := by decide +kernel
theorem dX5_homesBySeed_75 : decode cX5_homesBySeed 75 = .ok (.ldiv, 1) := by decide +kernel
theorem dX5_homesBySeed_76 : decode cX5_homesBySeed 76 = .ok (.aload_n 0, 1) := by decide +kernel
theorem dX5_homesBySeed_77 : decode cX5_homesBySeed 77 = .ok (.getfield 12, 3) := by decide +kernel
theorem dX5_homesBySeed_80 : decode cX5_homesBySeed 80 = .ok (.getfield 64, 3) := by decide +kernel
theorem dX5_homesBySeed_83 : decode cX5_homesBySeed 83 = .ok (.invokestatic 140, 3) := by decide +kernel
theorem dX5_homesBySeed_86 : decode cX5_homesBySeed 86 = .ok (.iconst 1, 1) := by decide +kernel
theorem dX5_homesBySeed_87 : decode cX5_homesBySeed 87 = .ok (.iadd, 1) := by decide +kernel
theorem dX5_homesBySeed_88 : decode cX5_homesBySeed 88 = .ok (.aload_n 0, 1) := by decide +kernel
theorem dX5_homesBySeed_89 : decode cX5_homesBySeed 89 = .ok (.getfield 24, 3) := by decide +kernel
theorem dX5_homesBySeed_92 : decode cX5_homesBySeed 92 = .ok (.iconst 0, 1) := by decide +kernel
theorem dX5_homesBySeed_93 : decode cX5_homesBySeed 93 = .ok (.aaload, 1) := by decide +kernel
theorem dX5_homesBySeed_94 : decode cX5_homesBySeed 94 = .ok (.invokevirtual 114, 3) := by decide +kernel
theorem dX5_homesBySeed_97 : decode cX5_homesBySeed 97 = .ok (.iinc 6 1, 3) := by decide +kernel
theorem dX5_homesBySeed_100 : decode cX5_homesBySeed 100 = .ok (.goto (-85), 3) := by decide +kernel
theorem dX5_homesBySeed_103 : decode cX5_homesBySeed 103 = .ok (.aload_n 0, 1) := by decide +kernel
theorem dX5_homesBySeed_104 : decode cX5_homesBySeed 104 = .ok (.getfield 12, 3) := by decide +kernel
theorem dX5_homesBySeed_107 : decode cX5_homesBySeed 107 = .ok (.invokevirtual 149, 3) := by decide +kernel
theorem dX5_homesBySeed_110 : decode cX5_homesBySeed 110 = .ok (.ireturn, 1) := by decide +kernel
def fX5_homesBySeed_97 (k15 : Nat → Int32 → Int64 → Int32 → gx_H → Option (Int32 × gx_H)) (v0 : Nat) (v3 : Int32) (v4 : Int64) (v6 : Int32) (h : gx_H) : Option (Int32 × gx_H) :=
  k15 v0 v3 v4 (v6 + (1 : Int32)) h
def bX5_homesBySeed_15 (k15 : Nat → Int32 → Int64 → Int32 → gx_H → Option (Int32 × gx_H)) (v0 : Nat) (v3 : Int32) (v4 : Int64) (v6 : Int32) (h : gx_H) : Option (Int32 × gx_H) :=
  if v3 ≤ v6 then
    (gx_fR h v0 4 0).bind fun a4 =>
    gx_bd (fX0_homes a4 h) fun x6 h5 =>
    some (x6, h5)
  else
    (gx_rJ ((v4 * (1103515245 : Int64)) + (12345 : Int64)) (2147483648 : Int64)).bind fun z7 =>
    (gx_dJ z7 (65536 : Int64)).bind fun z8 =>
    gx_bd (fX10_leftOver z8 (4 : Int32) h) fun x10 h9 =>
    (gx_fR h9 v0 4 0).bind fun a11 =>
    (gx_fI h9 a11 0 3).bind fun x12 =>
    gx_bd (fX10_within x10 (0 : Int32) (x12 - (1 : Int32)) h9) fun x14 h13 =>
    if x14 = 0 then
      fX5_homesBySeed_97 k15 v0 v3 z7 v6 h13
    else
      (gx_dJ z7 (1048576 : Int64)).bind fun z15 =>
      (gx_fR h13 v0 4 0).bind fun a16 =>
      (gx_fI h13 a16 0 1).bind fun x17 =>
      gx_bd (fX10_leftOver z15 x17 h13) fun x19 h18 =>
      (gx_fR h18 v0 4 1).bind fun a20 =>
      (gx_aR 3 h18 a20 (0 : Int32)).bind fun a21 =>
      gx_bd (fX5_moveUnlessHome v0 x10 (x19 + (1 : Int32)) a21 h18) fun u23 h22 =>
      fX5_homesBySeed_97 k15 v0 v3 z7 v6 h22
def fX5_homesBySeed_15 : Nat → Nat → Int32 → Int64 → Int32 → gx_H → Option (Int32 × gx_H)
  | 0 => fun _ _ _ _ _ => none
  | n + 1 => bX5_homesBySeed_15 (fX5_homesBySeed_15 n)
def fX5_homesBySeed (v0 : Nat) (v1 : Nat) (v2 : Int32) (v3 : Int32) (h : gx_H) : Option (Int32 × gx_H) :=
  (gx_isO h v0 4).bind fun _ =>
  (gx_fR h v0 4 0).bind fun a1 =>
  gx_bd (fX0_copy a1 v1 h) fun u3 h2 =>
  fX5_homesBySeed_15 gx_N v0 v3 ((v2).toInt64) (0 : Int32) h2
set_option maxRecDepth 100000 in
set_option maxHeartbeats 4000000 in
theorem gX5_homesBySeed_97 {E : gx_Env} {d : Nat} (k15 : Nat → Int32 → Int64 → Int32 → gx_H → Option (Int32 × gx_H)) (hk15 : ∀ (v0 : Nat) (v3 : Int32) (v4 : Int64) (v6 : Int32) (h : gx_H), gx_G E RX5 cX5_homesBySeed 8 (some .int) false (d + 5) 0 0 15 [some (.ref v0), none, none, some (.int v3), some (.long v4), none, some (.int v6), none] [] h (fun x : Int32 => some (.int x)) (k15 v0 v3 v4 v6 h))  : ∀ (v0 : Nat) (v3 : Int32) (v4 : Int64) (v6 : Int32) (h : gx_H), gx_G E RX5 cX5_homesBySeed 8 (some .int) false (d + 5) 0 0 97 [some (.ref v0), none, none, some (.int v3), some (.long v4), none, some (.int v6), none] [] h (fun x : Int32 => some (.int x)) (fX5_homesBySeed_97 k15 v0 v3 v4 v6 h) := by
  intro v0 v3 v4 v6 h
  unfold fX5_homesBySeed_97
  refine gx_iinc (1 : Int32) [some (.ref v0), none, none, some (.int v3), some (.long v4), none, some (.int (v6 + (1 : Int32))), none] dX5_homesBySeed_97 rfl (by decide) (by decide) rfl ?_
  refine gx_goto 15 dX5_homesBySeed_100 (by decide) ?_
  exact gx_sub (hk15 v0 v3 v4 (v6 + (1 : Int32)) h) (And.intro rfl (And.intro rfl (And.intro rfl (And.intro rfl True.intro))))
set_option maxRecDepth 100000 in
set_option maxHeartbeats 4000000 in
theorem gbX5_homesBySeed_15 {E : gx_Env} {d : Nat}  (k15 : Nat → Int32 → Int64 → Int32 → gx_H → Option (Int32 × gx_H)) (hk15 : ∀ (v0 : Nat) (v3 : Int32) (v4 : Int64) (v6 : Int32) (h : gx_H), gx_G E RX5 cX5_homesBySeed 8 (some .int) false (d + 5) 0 0 15 [some (.ref v0), none, none, some (.int v3), some (.long v4), none, some (.int v6), none] [] h (fun x : Int32 => some (.int x)) (k15 v0 v3 v4 v6 h))  : ∀ (v0 : Nat) (v3 : Int32) (v4 : Int64) (v6 : Int32) (h : gx_H), gx_G E RX5 cX5_homesBySeed 8 (some .int) false (d + 5) 0 0 15 [some (.ref v0), none, none, some (.int v3), some (.long v4), none, some (.int v6), none] [] h (fun x : Int32 => some (.int x)) (bX5_homesBySeed_15 k15 v0 v3 v4 v6 h) := by
  intro v0 v3 v4 v6 h
  unfold bX5_homesBySeed_15
  refine gx_iload dX5_homesBySeed_15 rfl ?_
  refine gx_iload_n 3 dX5_homesBySeed_17 rfl rfl ?_
  refine gx_icmp_ge 103 dX5_homesBySeed_18 (by decide) (fun _ => ?_) (fun _ => ?_)
  · refine gx_aload_n 0 dX5_homesBySeed_103 rfl rfl ?_
    refine gx_getR kf_RX5_12 dX5_homesBySeed_104 (fun a4 => ?_)
    refine gx_callV (ci := 0) (bc := 0) (bs := 0) (mc := 0) (ms := 0) (em' := (fun x : Int32 => some (.int x))) [] kc_RX5_149 rfl dX5_homesBySeed_107 rfl rfl (gx_w8 rfl) (fun x q => (gx_isO_of (by unfold fX0_homes at q; exact q)).2) (fun _ _ q => okX0_homes (d + 3) q) (fun x6 h5 => ?_)
    exact gx_iret dX5_homesBySeed_110 rfl
  · refine gx_lload dX5_homesBySeed_21 rfl ?_
    refine gx_ldc2 kk_RX5_132 dX5_homesBySeed_23 ?_
    refine gx_lmul dX5_homesBySeed_26 ?_
    refine gx_ldc2 kk_RX5_134 dX5_homesBySeed_27 ?_
    refine gx_ladd dX5_homesBySeed_30 ?_
    refine gx_ldc2 kk_RX5_136 dX5_homesBySeed_31 ?_
    refine gx_lrem dX5_homesBySeed_34 (fun z7 => ?_)
    refine gx_lstore [some (.ref v0), none, none, some (.int v3), some (.long z7), none, some (.int v6), none] dX5_homesBySeed_35 (by decide) rfl ?_
    refine gx_lload dX5_homesBySeed_37 rfl ?_
    refine gx_ldc2 kk_RX5_138 dX5_homesBySeed_39 ?_
    refine gx_ldiv dX5_homesBySeed_42 (fun z8 => ?_)
    refine gx_iconst (4 : Int32) dX5_homesBySeed_43 (by decide) ?_
    refine gx_callSN (bc := 0) (bs := 0) (mc := 0) (ms := 0) (em' := (fun x : Int32 => some (.int x))) [.long z8, .int (4 : Int32)] kc_RX5_140 dX5_homesBySeed_44 rfl rfl (gx_w8 rfl) (fun _ _ q => okX10_leftOver (d + 4) q) (fun x10 h9 => ?_)
    refine gx_istore [some (.ref v0), none, none, some (.int v3), some (.long z7), none, some (.int v6), some (.int x10)] dX5_homesBySeed_47 (by decide) rfl ?_
    refine gx_iload dX5_homesBySeed_49 rfl ?_
    refine gx_iconst (0 : Int32) dX5_homesBySeed_51 (by decide) ?_
    refine gx_aload_n 0 dX5_homesBySeed_52 rfl rfl ?_
    refine gx_getR kf_RX5_12 dX5_homesBySeed_53 (fun a11 => ?_)
    refine gx_getI kf_RX5_144 dX5_homesBySeed_56 (fun x12 => ?_)
    refine gx_iconst (1 : Int32) dX5_homesBySeed_59 (by decide) ?_
    refine gx_isub dX5_homesBySeed_60 ?_
    refine gx_callSN (bc := 0) (bs := 0) (mc := 0) (ms := 0) (em' := (fun x : Int32 => some (.int x))) [.int x10, .int (0 : Int32), .int (x12 - (1 : Int32))] kc_RX5_56 dX5_homesBySeed_61 rfl rfl (gx_w8 rfl) (fun _ _ q => okX10_within (d + 4) q) (fun x14 h13 => ?_)
    refine gx_if_eq 97 dX5_homesBySeed_64 (by decide) (fun _ => ?_) (fun _ => ?_)
    · exact gx_sub (gX5_homesBySeed_97 k15 hk15 v0 v3 z7 v6 h13) (And.intro rfl (And.intro rfl (And.intro rfl (And.intro rfl True.intro))))
    · refine gx_aload_n 0 dX5_homesBySeed_67 rfl rfl ?_
      refine gx_iload dX5_homesBySeed_68 rfl ?_
      refine gx_lload dX5_homesBySeed_70 rfl ?_
      refine gx_ldc2 kk_RX5_147 dX5_homesBySeed_72 ?_
      refine gx_ldiv dX5_homesBySeed_75 (fun z15 => ?_)
      refine gx_aload_n 0 dX5_homesBySeed_76 rfl rfl ?_
      refine gx_getR kf_RX5_12 dX5_homesBySeed_77 (fun a16 => ?_)
      refine gx_getI kf_RX5_64 dX5_homesBySeed_80 (fun x17 => ?_)
      refine gx_callSN (bc := 0) (bs := 0) (mc := 0) (ms := 0) (em' := (fun x : Int32 => some (.int x))) [.long z15, .int x17] kc_RX5_140 dX5_homesBySeed_83 rfl rfl (gx_w8 rfl) (fun _ _ q => okX10_leftOver (d + 4) q) (fun x19 h18 => ?_)
      refine gx_iconst (1 : Int32) dX5_homesBySeed_86 (by decide) ?_
      refine gx_iadd dX5_homesBySeed_87 ?_
      refine gx_aload_n 0 dX5_homesBySeed_88 rfl rfl ?_
      refine gx_getR kf_RX5_24 dX5_homesBySeed_89 (fun a20 => ?_)
      refine gx_iconst (0 : Int32) dX5_homesBySeed_92 (by decide) ?_
      refine gx_aald3 dX5_homesBySeed_93 (fun a21 => ?_)
      refine gx_callV (ci := 4) (bc := 0) (bs := 0) (mc := 0) (ms := 0) (em' := (fun _ : Unit => none)) [.int x10, .int (x19 + (1 : Int32)), .ref a21] kc_RX5_114 rfl dX5_homesBySeed_94 rfl rfl (gx_w8 rfl) (fun x q => (gx_isO_of (by unfold fX5_moveUnlessHome at q; exact q)).2) (fun _ _ q => okX5_moveUnlessHome d q) (fun u23 h22 => ?_)
      exact gx_sub (gX5_homesBySeed_97 k15 hk15 v0 v3 z7 v6 h22) (And.intro rfl (And.intro rfl (And.intro rfl (And.intro rfl True.intro))))
set_option maxRecDepth 100000 in
set_option maxHeartbeats 4000000 in
theorem gX5_homesBySeed_15 {E : gx_Env} {d : Nat}  : ∀ (n : Nat) (v0 : Nat) (v3 : Int32) (v4 : Int64) (v6 : Int32) (h : gx_H), gx_G E RX5 cX5_homesBySeed 8 (some .int) false (d + 5) 0 0 15 [some (.ref v0), none, none, some (.int v3), some (.long v4), none, some (.int v6), none] [] h (fun x : Int32 => some (.int x)) (fX5_homesBySeed_15 n v0 v3 v4 v6 h) := by
  intro n
  induction n with
  | zero => intro v0 v3 v4 v6 h; exact gx_none
  | succ n ih => exact gbX5_homesBySeed_15  (fX5_homesBySeed_15  n) ih
set_option maxRecDepth 100000 in
set_option maxHeartbeats 4000000 in
theorem geX5_homesBySeed {E : gx_Env} {d : Nat} (v0 : Nat) (v1 : Nat) (v2 : Int32) (v3 : Int32) (h : gx_H) : gx_G E RX5 cX5_homesBySeed 8 (some .int) false (d + 5) 0 0 0 [some (.ref v0), some (.ref v1), some (.int v2), some (.int v3), none, none, none, none] [] h (fun x : Int32 => some (.int x)) (fX5_homesBySeed v0 v1 v2 v3 h) := by
  unfold fX5_homesBySeed
  refine gx_bind fun _ _ => ?_
  refine gx_aload_n 0 dX5_homesBySeed_0 rfl rfl ?_
  refine gx_getR kf_RX5_12 dX5_homesBySeed_1 (fun a1 => ?_)
  refine gx_aload_n 1 dX5_homesBySeed_4 rfl rfl ?_
  refine gx_callV (ci := 0) (bc := 0) (bs := 0) (mc := 0) (ms := 0) (em' := (fun _ : Unit => none)) [.ref v1] kc_RX5_48 rfl dX5_homesBySeed_5 rfl rfl (gx_w8 rfl) (fun x q => (gx_isO_of (by unfold fX0_copy at q; exact q)).2) (fun _ _ q => okX0_copy (d + 4) q) (fun u3 h2 => ?_)
  refine gx_iload_n 2 dX5_homesBySeed_8 rfl rfl ?_
  refine gx_i2l dX5_homesBySeed_9 ?_
  refine gx_lstore [some (.ref v0), some (.ref v1), some (.int v2), some (.int v3), some (.long ((v2).toInt64)), none, none, none] dX5_homesBySeed_10 (by decide) rfl ?_
  refine gx_iconst (0 : Int32) dX5_homesBySeed_12 (by decide) ?_
  refine gx_istore [some (.ref v0), some (.ref v1), some (.int v2), some (.int v3), some (.long ((v2).toInt64)), none, some (.int (0 : Int32)), none] dX5_homesBySeed_13 (by decide) rfl ?_
  exact gx_sub (gX5_homesBySeed_15 gx_N v0 v3 ((v2).toInt64) (0 : Int32) h2) (And.intro rfl (And.intro rfl (And.intro rfl (And.intro rfl True.intro))))
theorem okX5_homesBySeed {E : gx_Env} (d : Nat) {v0 : Nat} {v1 : Nat} {v2 : Int32} {v3 : Int32} {h : gx_H} {r : Int32} {h1 : gx_H} (q : fX5_homesBySeed v0 v1 v2 v3 h = some (r, h1)) : gx_M E yX5_homesBySeed cX5_homesBySeed 8 (some .int) (d + 5) 0 0 [.ref v0, .ref v1, .int v2, .int v3] h ((fun x : Int32 => some (.int x)) r) h1 := gx_meth (y := yX5_homesBySeed) (cc := cX5_homesBySeed) (nL := 8) (em := (fun x : Int32 => some (.int x))) (ini := false) [.ref v0, .ref v1, .int v2, .int v3] (by decide) (by simp [gx_sl]) (fun q => by cases q) (geX5_homesBySeed v0 v1 v2 v3 h) q
theorem dX7_add_0 : decode cX7_add 0 = .ok (.aload_n 0, 1) := by decide +kernel
theorem dX7_add_1 : decode cX7_add 1 = .ok (.getfield 9, 3) := by decide +kernel
theorem dX7_add_4 : decode cX7_add 4 = .ok (.bipush 6, 2) := by decide +kernel
theorem dX7_add_6 : decode cX7_add 6 = .ok (.if_icmp .ge 54, 3) := by decide +kernel
theorem dX7_add_9 : decode cX7_add 9 = .ok (.aload_n 0, 1) := by decide +kernel
theorem dX7_add_10 : decode cX7_add 10 = .ok (.getfield 15, 3) := by decide +kernel
theorem dX7_add_13 : decode cX7_add 13 = .ok (.aload_n 0, 1) := by decide +kernel
theorem dX7_add_14 : decode cX7_add 14 = .ok (.getfield 9, 3) := by decide +kernel
theorem dX7_add_17 : decode cX7_add 17 = .ok (.iload_n 1, 1) := by decide +kernel
theorem dX7_add_18 : decode cX7_add 18 = .ok (.iastore, 1) := by decide +kernel
theorem dX7_add_19 : decode cX7_add 19 = .ok (.aload_n 0, 1) := by decide +kernel
theorem dX7_add_20 : decode cX7_add 20 = .ok (.getfield 19, 3) := by decide +kernel
theorem dX7_add_23 : decode cX7_add 23 = .ok (.aload_n 0, 1) := by decide +kernel
theorem dX7_add_24 : decode cX7_add 24 = .ok (.getfield 9, 3) := by decide +kernel
theorem dX7_add_27 : decode cX7_add 27 = .ok (.iload_n 2, 1) := by decide +kernel
theorem dX7_add_28 : decode cX7_add 28 = .ok (.iastore, 1) := by decide +kernel
theorem dX7_add_29 : decode cX7_add 29 = .ok (.aload_n 0, 1) := by decide +kernel
theorem dX7_add_30 : decode cX7_add 30 = .ok (.getfield 22, 3) := by decide +kernel
theorem dX7_add_33 : decode cX7_add 33 = .ok (.aload_n 0, 1) := by decide +kernel
theorem dX7_add_34 : decode cX7_add 34 = .ok (.getfield 9, 3) := by decide +kernel
theorem dX7_add_37 : decode cX7_add 37 = .ok (.iload_n 3, 1) := by decide +kernel
theorem dX7_add_38 : decode cX7_add 38 = .ok (.iastore, 1) := by decide +kernel
theorem dX7_add_39 : decode cX7_add 39 = .ok (.aload_n 0, 1) := by decide +kernel
theorem dX7_add_40 : decode cX7_add 40 = .ok (.getfield 25, 3) := by decide +kernel
theorem dX7_add_43 : decode cX7_add 43 = .ok (.aload_n 0, 1) := by decide +kernel
theorem dX7_add_44 : decode cX7_add 44 = .ok (.getfield 9, 3) := by decide +kernel
theorem dX7_add_47 : decode cX7_add 47 = .ok (.iload 4, 2) := by decide +kernel
theorem dX7_add_49 : decode cX7_add 49 = .ok (.iastore, 1) := by decide +kernel
theorem dX7_add_50 : decode cX7_add 50 = .ok (.aload_n 0, 1) := by decide +kernel
theorem dX7_add_51 : decode cX7_add 51 = .ok (.dup, 1) := by decide +kernel
theorem dX7_add_52 : decode cX7_add 52 = .ok (.getfield 9, 3) := by decide +kernel
theorem dX7_add_55 : decode cX7_add 55 = .ok (.iconst 1, 1) := by decide +kernel
theorem dX7_add_56 : decode cX7_add 56 = .ok (.iadd, 1) := by decide +kernel
theorem dX7_add_57 : decode cX7_add 57 = .ok (.putfield 9, 3) := by decide +kernel
theorem dX7_add_60 : decode cX7_add 60 = .ok (.aload_n 0, 1) := by decide +kernel
theorem dX7_add_61 : decode cX7_add 61 = .ok (.getfield 9, 3) := by decide +kernel
theorem dX7_add_64 : decode cX7_add 64 = .ok (.ireturn, 1) := by decide +kernel
def fX7_add_60 (v0 : Nat) (h : gx_H) : Option (Int32 × gx_H) :=
  (gx_fI h v0 5 0).bind fun x16 =>
  some (x16, h)
def fX7_add (v0 : Nat) (v1 : Int32) (v2 : Int32) (v3 : Int32) (v4 : Int32) (h : gx_H) : Option (Int32 × gx_H) :=
  (gx_isO h v0 5).bind fun _ =>
  (gx_fI h v0 5 0).bind fun x1 =>
  if (6 : Int32) ≤ x1 then
    fX7_add_60 v0 h
  else
    (gx_fR h v0 5 1).bind fun a2 =>
    (gx_fI h v0 5 0).bind fun x3 =>
    (gx_sI 0 h a2 x3 v1).bind fun h4 =>
    (gx_fR h4 v0 5 2).bind fun a5 =>
    (gx_fI h4 v0 5 0).bind fun x6 =>
    (gx_sI 0 h4 a5 x6 v2).bind fun h7 =>
    (gx_fR h7 v0 5 3).bind fun a8 =>
    (gx_fI h7 v0 5 0).bind fun x9 =>
    (gx_sI 0 h7 a8 x9 v3).bind fun h10 =>
    (gx_fR h10 v0 5 4).bind fun a11 =>
    (gx_fI h10 v0 5 0).bind fun x12 =>
    (gx_sI 0 h10 a11 x12 v4).bind fun h13 =>
    (gx_fI h13 v0 5 0).bind fun x14 =>
    (gx_pF h13 v0 5 0 (.int (x14 + (1 : Int32)))).bind fun h15 =>
    fX7_add_60 v0 h15
set_option maxRecDepth 100000 in
set_option maxHeartbeats 4000000 in
theorem gX7_add_60 {E : gx_Env} {d : Nat}  : ∀ (v0 : Nat) (h : gx_H), gx_G E RX7 cX7_add 5 (some .int) false d 0 0 60 [some (.ref v0), none, none, none, none] [] h (fun x : Int32 => some (.int x)) (fX7_add_60 v0 h) := by
  intro v0 h
  unfold fX7_add_60
  refine gx_aload_n 0 dX7_add_60 rfl rfl ?_
  refine gx_getI kf_RX7_9 dX7_add_61 (fun x16 => ?_)
  exact gx_iret dX7_add_64 rfl
set_option maxRecDepth 100000 in
set_option maxHeartbeats 4000000 in
theorem geX7_add {E : gx_Env} {d : Nat} (v0 : Nat) (v1 : Int32) (v2 : Int32) (v3 : Int32) (v4 : Int32) (h : gx_H) : gx_G E RX7 cX7_add 5 (some .int) false d 0 0 0 [some (.ref v0), some (.int v1), some (.int v2), some (.int v3), some (.int v4)] [] h (fun x : Int32 => some (.int x)) (fX7_add v0 v1 v2 v3 v4 h) := by
  unfold fX7_add
  refine gx_bind fun _ _ => ?_
  refine gx_aload_n 0 dX7_add_0 rfl rfl ?_
  refine gx_getI kf_RX7_9 dX7_add_1 (fun x1 => ?_)
  refine gx_bipush (6 : Int32) dX7_add_4 (by decide) ?_
  refine gx_icmp_ge 60 dX7_add_6 (by decide) (fun _ => ?_) (fun _ => ?_)
  · exact gx_sub (gX7_add_60 v0 h) (And.intro rfl True.intro)
  · refine gx_aload_n 0 dX7_add_9 rfl rfl ?_
    refine gx_getR kf_RX7_15 dX7_add_10 (fun a2 => ?_)
    refine gx_aload_n 0 dX7_add_13 rfl rfl ?_
    refine gx_getI kf_RX7_9 dX7_add_14 (fun x3 => ?_)
    refine gx_iload_n 1 dX7_add_17 rfl rfl ?_
    refine gx_iast dX7_add_18 (fun h4 => ?_)
    refine gx_aload_n 0 dX7_add_19 rfl rfl ?_
    refine gx_getR kf_RX7_19 dX7_add_20 (fun a5 => ?_)
    refine gx_aload_n 0 dX7_add_23 rfl rfl ?_
    refine gx_getI kf_RX7_9 dX7_add_24 (fun x6 => ?_)
    refine gx_iload_n 2 dX7_add_27 rfl rfl ?_
    refine gx_iast dX7_add_28 (fun h7 => ?_)
    refine gx_aload_n 0 dX7_add_29 rfl rfl ?_
    refine gx_getR kf_RX7_22 dX7_add_30 (fun a8 => ?_)
    refine gx_aload_n 0 dX7_add_33 rfl rfl ?_
    refine gx_getI kf_RX7_9 dX7_add_34 (fun x9 => ?_)
    refine gx_iload_n 3 dX7_add_37 rfl rfl ?_
    refine gx_iast dX7_add_38 (fun h10 => ?_)
    refine gx_aload_n 0 dX7_add_39 rfl rfl ?_
    refine gx_getR kf_RX7_25 dX7_add_40 (fun a11 => ?_)
    refine gx_aload_n 0 dX7_add_43 rfl rfl ?_
    refine gx_getI kf_RX7_9 dX7_add_44 (fun x12 => ?_)
    refine gx_iload dX7_add_47 rfl ?_
    refine gx_iast dX7_add_49 (fun h13 => ?_)
    refine gx_aload_n 0 dX7_add_50 rfl rfl ?_
    refine gx_dup dX7_add_51 rfl ?_
    refine gx_getI kf_RX7_9 dX7_add_52 (fun x14 => ?_)
    refine gx_iconst (1 : Int32) dX7_add_55 (by decide) ?_
    refine gx_iadd dX7_add_56 ?_
    refine gx_putI kp_RX7_9 (fun q => by cases q) dX7_add_57 (fun h15 => ?_)
    exact gx_sub (gX7_add_60 v0 h15) (And.intro rfl True.intro)
theorem okX7_add {E : gx_Env} (d : Nat) {v0 : Nat} {v1 : Int32} {v2 : Int32} {v3 : Int32} {v4 : Int32} {h : gx_H} {r : Int32} {h1 : gx_H} (q : fX7_add v0 v1 v2 v3 v4 h = some (r, h1)) : gx_M E yX7_add cX7_add 5 (some .int) d 0 0 [.ref v0, .int v1, .int v2, .int v3, .int v4] h ((fun x : Int32 => some (.int x)) r) h1 := gx_meth (y := yX7_add) (cc := cX7_add) (nL := 5) (em := (fun x : Int32 => some (.int x))) (ini := false) [.ref v0, .int v1, .int v2, .int v3, .int v4] (by decide) (by simp [gx_sl]) (fun q => by cases q) (geX7_add v0 v1 v2 v3 v4 h) q
theorem dX9_init_0 : decode cX9_init 0 = .ok (.aload_n 0, 1) := by decide +kernel
theorem dX9_init_1 : decode cX9_init 1 = .ok (.invokespecial 3, 3) := by decide +kernel
theorem dX9_init_4 : decode cX9_init 4 = .ok (.aload_n 0, 1) := by decide +kernel
theorem dX9_init_5 : decode cX9_init 5 = .ok (.iconst 0, 1) := by decide +kernel
theorem dX9_init_6 : decode cX9_init 6 = .ok (.putfield 9, 3) := by decide +kernel
theorem dX9_init_9 : decode cX9_init 9 = .ok (.aload_n 0, 1) := by decide +kernel
theorem dX9_init_10 : decode cX9_init 10 = .ok (.new 15, 3) := by decide +kernel
theorem dX9_init_13 : decode cX9_init 13 = .ok (.dup, 1) := by decide +kernel
theorem dX9_init_14 : decode cX9_init 14 = .ok (.invokespecial 17, 3) := by decide +kernel
theorem dX9_init_17 : decode cX9_init 17 = .ok (.putfield 18, 3) := by decide +kernel
theorem dX9_init_20 : decode cX9_init 20 = .ok (.aload_n 0, 1) := by decide +kernel
theorem dX9_init_21 : decode cX9_init 21 = .ok (.sipush 150, 3) := by decide +kernel
theorem dX9_init_24 : decode cX9_init 24 = .ok (.newarray .byte, 2) := by decide +kernel
theorem dX9_init_26 : decode cX9_init 26 = .ok (.putfield 22, 3) := by decide +kernel
theorem dX9_init_29 : decode cX9_init 29 = .ok (.aload_n 0, 1) := by decide +kernel
theorem dX9_init_30 : decode cX9_init 30 = .ok (.new 26, 3) := by decide +kernel
theorem dX9_init_33 : decode cX9_init 33 = .ok (.dup, 1) := by decide +kernel
theorem dX9_init_34 : decode cX9_init 34 = .ok (.invokespecial 28, 3) := by decide +kernel
theorem dX9_init_37 : decode cX9_init 37 = .ok (.putfield 29, 3) := by decide +kernel
theorem dX9_init_40 : decode cX9_init 40 = .ok (.aload_n 0, 1) := by decide +kernel
theorem dX9_init_41 : decode cX9_init 41 = .ok (.iconst 0, 1) := by decide +kernel
theorem dX9_init_42 : decode cX9_init 42 = .ok (.putfield 33, 3) := by decide +kernel
theorem dX9_init_45 : decode cX9_init 45 = .ok (.aload_n 0, 1) := by decide +kernel
theorem dX9_init_46 : decode cX9_init 46 = .ok (.iconst 0, 1) := by decide +kernel
theorem dX9_init_47 : decode cX9_init 47 = .ok (.putfield 36, 3) := by decide +kernel
theorem dX9_init_50 : decode cX9_init 50 = .ok (.aload_n 0, 1) := by decide +kernel
theorem dX9_init_51 : decode cX9_init 51 = .ok (.iconst 0, 1) := by decide +kernel
theorem dX9_init_52 : decode cX9_init 52 = .ok (.putfield 39, 3) := by decide +kernel
theorem dX9_init_55 : decode cX9_init 55 = .ok (.aload_n 0, 1) := by decide +kernel
theorem dX9_init_56 : decode cX9_init 56 = .ok (.iconst 0, 1) := by decide +kernel
theorem dX9_init_57 : decode cX9_init 57 = .ok (.putfield 42, 3) := by decide +kernel
theorem dX9_init_60 : decode cX9_init 60 = .ok (.return_, 1) := by decide +kernel
def fX9_init (v0 : Nat) (h : gx_H) : Option (Unit × gx_H) :=
  (gx_pF h v0 7 0 (.int (0 : Int32))).bind fun h1 =>
  gx_let (gx_new (.inr (0, [.int 0, .int 0, .int 0, .int 0, .null, .null, .null, .null, .null, .null, .null])) h1) fun h2 =>
  gx_bd (fX0_init h1.1 h2) fun u4 h3 =>
  (gx_pF h3 v0 7 1 (.ref h1.1)).bind fun h5 =>
  gx_let (gx_new (.inl (1, 150, .inl (fun _ => 0))) h5) fun h6 =>
  (gx_pF h6 v0 7 2 (.ref h5.1)).bind fun h7 =>
  gx_let (gx_new (.inr (6, [.int 0, .int 0, .int 0, .int 0, .int 0])) h7) fun h8 =>
  gx_bd (fX8_init h7.1 h8) fun u10 h9 =>
  (gx_pF h9 v0 7 3 (.ref h7.1)).bind fun h11 =>
  (gx_pF h11 v0 7 4 (.int (0 : Int32))).bind fun h12 =>
  (gx_pF h12 v0 7 5 (.int (0 : Int32))).bind fun h13 =>
  (gx_pF h13 v0 7 6 (.int (0 : Int32))).bind fun h14 =>
  (gx_pF h14 v0 7 7 (.int (0 : Int32))).bind fun h15 =>
  some ((), h15)
set_option maxRecDepth 100000 in
set_option maxHeartbeats 4000000 in
theorem geX9_init {E : gx_Env} {d : Nat} (v0 : Nat) (h : gx_H) : gx_G E RX9 cX9_init 1 none true (d + 2) 10 202 0 [some (.ref v0)] [] h (fun _ : Unit => none) (fX9_init v0 h) := by
  unfold fX9_init
  refine gx_aload_n 0 dX9_init_0 rfl rfl ?_
  refine gx_obj kk_RX9_3 ko_i ko_c dX9_init_1 (by decide) ?_
  refine gx_aload_n 0 dX9_init_4 rfl rfl ?_
  refine gx_iconst (0 : Int32) dX9_init_5 (by decide) ?_
  refine gx_putI kp_RX9_9 (fun _ => rfl) dX9_init_6 (fun h1 => ?_)
  refine gx_aload_n 0 dX9_init_9 rfl rfl ?_
  refine gx_newO (bc := 9) (bs := 191) kn_RX9_15 rfl dX9_init_10 ?_
  refine gx_letG ?_
  generalize (gx_new (.inr (0, [.int 0, .int 0, .int 0, .int 0, .null, .null, .null, .null, .null, .null, .null])) h1) = h2
  refine gx_dup dX9_init_13 rfl ?_
  refine gx_callIN (bc := 2) (bs := 155) (mc := 7) (ms := 36) (em' := (fun _ : Unit => none)) [] kc_RX9_17 dX9_init_14 rfl rfl (gx_w8 rfl) (fun _ _ q => okX0_init d q) (fun u4 h3 => ?_)
  refine gx_putO kp_RX9_18 (fun _ => rfl) dX9_init_17 (fun h5 => ?_)
  refine gx_aload_n 0 dX9_init_20 rfl rfl ?_
  refine gx_sipush (150 : Int32) dX9_init_21 (by decide) ?_
  refine gx_newA1 (bc := 1) (bs := 5) 150 ka_byte dX9_init_24 (by decide) (by decide) (by decide) ?_
  refine gx_letG ?_
  generalize (gx_new (.inl (1, 150, .inl (fun _ => 0))) h5) = h6
  refine gx_putA kp_RX9_22 (fun _ => rfl) dX9_init_26 (fun h7 => ?_)
  refine gx_aload_n 0 dX9_init_29 rfl rfl ?_
  refine gx_newO (bc := 0) (bs := 0) kn_RX9_26 rfl dX9_init_30 ?_
  refine gx_letG ?_
  generalize (gx_new (.inr (6, [.int 0, .int 0, .int 0, .int 0, .int 0])) h7) = h8
  refine gx_dup dX9_init_33 rfl ?_
  refine gx_callIN (bc := 0) (bs := 0) (mc := 0) (ms := 0) (em' := (fun _ : Unit => none)) [] kc_RX9_28 dX9_init_34 rfl rfl (gx_w8 rfl) (fun _ _ q => okX8_init d q) (fun u10 h9 => ?_)
  refine gx_putO kp_RX9_29 (fun _ => rfl) dX9_init_37 (fun h11 => ?_)
  refine gx_aload_n 0 dX9_init_40 rfl rfl ?_
  refine gx_iconst (0 : Int32) dX9_init_41 (by decide) ?_
  refine gx_putI kp_RX9_33 (fun _ => rfl) dX9_init_42 (fun h12 => ?_)
  refine gx_aload_n 0 dX9_init_45 rfl rfl ?_
  refine gx_iconst (0 : Int32) dX9_init_46 (by decide) ?_
  refine gx_putI kp_RX9_36 (fun _ => rfl) dX9_init_47 (fun h13 => ?_)
  refine gx_aload_n 0 dX9_init_50 rfl rfl ?_
  refine gx_iconst (0 : Int32) dX9_init_51 (by decide) ?_
  refine gx_putI kp_RX9_39 (fun _ => rfl) dX9_init_52 (fun h14 => ?_)
  refine gx_aload_n 0 dX9_init_55 rfl rfl ?_
  refine gx_iconst (0 : Int32) dX9_init_56 (by decide) ?_
  refine gx_putI kp_RX9_42 (fun _ => rfl) dX9_init_57 (fun h15 => ?_)
  exact gx_vret dX9_init_60 rfl
theorem okX9_init {E : gx_Env} (d : Nat) {v0 : Nat} {h : gx_H} {r : Unit} {h1 : gx_H} (q : fX9_init v0 h = some (r, h1)) : gx_M E yX9_init cX9_init 1 none (d + 2) 10 202 [.ref v0] h ((fun _ : Unit => none) r) h1 := gx_meth (y := yX9_init) (cc := cX9_init) (nL := 1) (em := (fun _ : Unit => none)) (ini := true) [.ref v0] (by decide) (by simp [gx_sl]) (fun _ => rfl) (geX9_init v0 h) q
theorem dX9_append_0 : decode cX9_append 0 = .ok (.aload_n 0, 1) := by decide +kernel
theorem dX9_append_1 : decode cX9_append 1 = .ok (.getfield 9, 3) := by decide +kernel
theorem dX9_append_4 : decode cX9_append 4 = .ok (.sipush 150, 3) := by decide +kernel
theorem dX9_append_7 : decode cX9_append 7 = .ok (.if_icmp .ge 24, 3) := by decide +kernel
theorem dX9_append_10 : decode cX9_append 10 = .ok (.aload_n 0, 1) := by decide +kernel
theorem dX9_append_11 : decode cX9_append 11 = .ok (.getfield 22, 3) := by decide +kernel
theorem dX9_append_14 : decode cX9_append 14 = .ok (.aload_n 0, 1) := by decide +kernel
theorem dX9_append_15 : decode cX9_append 15 = .ok (.getfield 9, 3) := by decide +kernel
theorem dX9_append_18 : decode cX9_append 18 = .ok (.iload_n 1, 1) := by decide +kernel
theorem dX9_append_19 : decode cX9_append 19 = .ok (.i2b, 1) := by decide +kernel
theorem dX9_append_20 : decode cX9_append 20 = .ok (.bastore, 1) := by decide +kernel
theorem dX9_append_21 : decode cX9_append 21 = .ok (.aload_n 0, 1) := by decide +kernel
theorem dX9_append_22 : decode cX9_append 22 = .ok (.dup, 1) := by decide +kernel
theorem dX9_append_23 : decode cX9_append 23 = .ok (.getfield 9, 3) := by decide +kernel
theorem dX9_append_26 : decode cX9_append 26 = .ok (.iconst 1, 1) := by decide +kernel
theorem dX9_append_27 : decode cX9_append 27 = .ok (.iadd, 1) := by decide +kernel
theorem dX9_append_28 : decode cX9_append 28 = .ok (.putfield 9, 3) := by decide +kernel
theorem dX9_append_31 : decode cX9_append 31 = .ok (.aload_n 0, 1) := by decide +kernel
theorem dX9_append_32 : decode cX9_append 32 = .ok (.getfield 9, 3) := by decide +kernel
theorem dX9_append_35 : decode cX9_append 35 = .ok (.ireturn, 1) := by decide +kernel
def fX9_append_31 (v0 : Nat) (h : gx_H) : Option (Int32 × gx_H) :=
  (gx_fI h v0 7 0).bind fun x7 =>
  some (x7, h)
def fX9_append (v0 : Nat) (v1 : Int32) (h : gx_H) : Option (Int32 × gx_H) :=
  (gx_isO h v0 7).bind fun _ =>
  (gx_fI h v0 7 0).bind fun x1 =>
  if (150 : Int32) ≤ x1 then
    fX9_append_31 v0 h
  else
    (gx_fR h v0 7 2).bind fun a2 =>
    (gx_fI h v0 7 0).bind fun x3 =>
    (gx_sI 1 h a2 x3 (vp_nar .byte ((v1).toInt8.toInt32))).bind fun h4 =>
    (gx_fI h4 v0 7 0).bind fun x5 =>
    (gx_pF h4 v0 7 0 (.int (x5 + (1 : Int32)))).bind fun h6 =>
    fX9_append_31 v0 h6
set_option maxRecDepth 100000 in
set_option maxHeartbeats 4000000 in
theorem gX9_append_31 {E : gx_Env} {d : Nat}  : ∀ (v0 : Nat) (h : gx_H), gx_G E RX9 cX9_append 2 (some .int) false d 0 0 31 [some (.ref v0), none] [] h (fun x : Int32 => some (.int x)) (fX9_append_31 v0 h) := by
  intro v0 h
  unfold fX9_append_31
  refine gx_aload_n 0 dX9_append_31 rfl rfl ?_
  refine gx_getI kf_RX9_9 dX9_append_32 (fun x7 => ?_)
  exact gx_iret dX9_append_35 rfl
set_option maxRecDepth 100000 in
set_option maxHeartbeats 4000000 in
theorem geX9_append {E : gx_Env} {d : Nat} (v0 : Nat) (v1 : Int32) (h : gx_H) : gx_G E RX9 cX9_append 2 (some .int) false d 0 0 0 [some (.ref v0), some (.int v1)] [] h (fun x : Int32 => some (.int x)) (fX9_append v0 v1 h) := by
  unfold fX9_append
  refine gx_bind fun _ _ => ?_
  refine gx_aload_n 0 dX9_append_0 rfl rfl ?_
  refine gx_getI kf_RX9_9 dX9_append_1 (fun x1 => ?_)
  refine gx_sipush (150 : Int32) dX9_append_4 (by decide) ?_
  refine gx_icmp_ge 31 dX9_append_7 (by decide) (fun _ => ?_) (fun _ => ?_)
  · exact gx_sub (gX9_append_31 v0 h) (And.intro rfl True.intro)
  · refine gx_aload_n 0 dX9_append_10 rfl rfl ?_
    refine gx_getR kf_RX9_22 dX9_append_11 (fun a2 => ?_)
    refine gx_aload_n 0 dX9_append_14 rfl rfl ?_
    refine gx_getI kf_RX9_9 dX9_append_15 (fun x3 => ?_)
    refine gx_iload_n 1 dX9_append_18 rfl rfl ?_
    refine gx_i2b dX9_append_19 ?_
    refine gx_bast dX9_append_20 (fun h4 => ?_)
    refine gx_aload_n 0 dX9_append_21 rfl rfl ?_
    refine gx_dup dX9_append_22 rfl ?_
    refine gx_getI kf_RX9_9 dX9_append_23 (fun x5 => ?_)
    refine gx_iconst (1 : Int32) dX9_append_26 (by decide) ?_
    refine gx_iadd dX9_append_27 ?_
    refine gx_putI kp_RX9_9 (fun q => by cases q) dX9_append_28 (fun h6 => ?_)
    exact gx_sub (gX9_append_31 v0 h6) (And.intro rfl True.intro)
theorem okX9_append {E : gx_Env} (d : Nat) {v0 : Nat} {v1 : Int32} {h : gx_H} {r : Int32} {h1 : gx_H} (q : fX9_append v0 v1 h = some (r, h1)) : gx_M E yX9_append cX9_append 2 (some .int) d 0 0 [.ref v0, .int v1] h ((fun x : Int32 => some (.int x)) r) h1 := gx_meth (y := yX9_append) (cc := cX9_append) (nL := 2) (em := (fun x : Int32 => some (.int x))) (ini := false) [.ref v0, .int v1] (by decide) (by simp [gx_sl]) (fun q => by cases q) (geX9_append v0 v1 h) q
theorem dX9_empty_0 : decode cX9_empty 0 = .ok (.aload_n 0, 1) := by decide +kernel
theorem dX9_empty_1 : decode cX9_empty 1 = .ok (.getfield 9, 3) := by decide +kernel
theorem dX9_empty_4 : decode cX9_empty 4 = .ok (.istore_n 1, 1) := by decide +kernel
theorem dX9_empty_5 : decode cX9_empty 5 = .ok (.aload_n 0, 1) := by decide +kernel
theorem dX9_empty_6 : decode cX9_empty 6 = .ok (.iconst 0, 1) := by decide +kernel
theorem dX9_empty_7 : decode cX9_empty 7 = .ok (.putfield 9, 3) := by decide +kernel
theorem dX9_empty_10 : decode cX9_empty 10 = .ok (.iload_n 1, 1) := by decide +kernel
theorem dX9_empty_11 : decode cX9_empty 11 = .ok (.ireturn, 1) := by decide +kernel
def fX9_empty (v0 : Nat) (h : gx_H) : Option (Int32 × gx_H) :=
  (gx_isO h v0 7).bind fun _ =>
  (gx_fI h v0 7 0).bind fun x1 =>
  (gx_pF h v0 7 0 (.int (0 : Int32))).bind fun h2 =>
  some (x1, h2)
set_option maxRecDepth 100000 in
set_option maxHeartbeats 4000000 in
theorem geX9_empty {E : gx_Env} {d : Nat} (v0 : Nat) (h : gx_H) : gx_G E RX9 cX9_empty 2 (some .int) false d 0 0 0 [some (.ref v0), none] [] h (fun x : Int32 => some (.int x)) (fX9_empty v0 h) := by
  unfold fX9_empty
  refine gx_bind fun _ _ => ?_
  refine gx_aload_n 0 dX9_empty_0 rfl rfl ?_
  refine gx_getI kf_RX9_9 dX9_empty_1 (fun x1 => ?_)
  refine gx_istore_n 1 [some (.ref v0), some (.int x1)] dX9_empty_4 rfl (by decide) rfl ?_
  refine gx_aload_n 0 dX9_empty_5 rfl rfl ?_
  refine gx_iconst (0 : Int32) dX9_empty_6 (by decide) ?_
  refine gx_putI kp_RX9_9 (fun q => by cases q) dX9_empty_7 (fun h2 => ?_)
  refine gx_iload_n 1 dX9_empty_10 rfl rfl ?_
  exact gx_iret dX9_empty_11 rfl
theorem okX9_empty {E : gx_Env} (d : Nat) {v0 : Nat} {h : gx_H} {r : Int32} {h1 : gx_H} (q : fX9_empty v0 h = some (r, h1)) : gx_M E yX9_empty cX9_empty 2 (some .int) d 0 0 [.ref v0] h ((fun x : Int32 => some (.int x)) r) h1 := gx_meth (y := yX9_empty) (cc := cX9_empty) (nL := 2) (em := (fun x : Int32 => some (.int x))) (ini := false) [.ref v0] (by decide) (by simp [gx_sl]) (fun q => by cases q) (geX9_empty v0 h) q
theorem dX9_fault_0 : decode cX9_fault 0 = .ok (.aload_n 0, 1) := by decide +kernel
theorem dX9_fault_1 : decode cX9_fault 1 = .ok (.getfield 36, 3) := by decide +kernel
theorem dX9_fault_4 : decode cX9_fault 4 = .ok (.ireturn, 1) := by decide +kernel
def fX9_fault (v0 : Nat) (h : gx_H) : Option (Int32 × gx_H) :=
  (gx_isO h v0 7).bind fun _ =>
  (gx_fI h v0 7 5).bind fun x1 =>
  some (x1, h)
set_option maxRecDepth 100000 in
set_option maxHeartbeats 4000000 in
theorem geX9_fault {E : gx_Env} {d : Nat} (v0 : Nat) (h : gx_H) : gx_G E RX9 cX9_fault 1 (some .int) false d 0 0 0 [some (.ref v0)] [] h (fun x : Int32 => some (.int x)) (fX9_fault v0 h) := by
  unfold fX9_fault
  refine gx_bind fun _ _ => ?_
  refine gx_aload_n 0 dX9_fault_0 rfl rfl ?_
  refine gx_getI kf_RX9_36 dX9_fault_1 (fun x1 => ?_)
  exact gx_iret dX9_fault_4 rfl
theorem okX9_fault {E : gx_Env} (d : Nat) {v0 : Nat} {h : gx_H} {r : Int32} {h1 : gx_H} (q : fX9_fault v0 h = some (r, h1)) : gx_M E yX9_fault cX9_fault 1 (some .int) d 0 0 [.ref v0] h ((fun x : Int32 => some (.int x)) r) h1 := gx_meth (y := yX9_fault) (cc := cX9_fault) (nL := 1) (em := (fun x : Int32 => some (.int x))) (ini := false) [.ref v0] (by decide) (by simp [gx_sl]) (fun q => by cases q) (geX9_fault v0 h) q
theorem dX9_isNumber_0 : decode cX9_isNumber 0 = .ok (.aload_n 0, 1) := by decide +kernel
theorem dX9_isNumber_1 : decode cX9_isNumber 1 = .ok (.getfield 33, 3) := by decide +kernel
theorem dX9_isNumber_4 : decode cX9_isNumber 4 = .ok (.iconst 2, 1) := by decide +kernel
theorem dX9_isNumber_5 : decode cX9_isNumber 5 = .ok (.if_icmp .ne 19, 3) := by decide +kernel
theorem dX9_isNumber_8 : decode cX9_isNumber 8 = .ok (.aload_n 0, 1) := by decide +kernel
theorem dX9_isNumber_9 : decode cX9_isNumber 9 = .ok (.getfield 42, 3) := by decide +kernel
theorem dX9_isNumber_12 : decode cX9_isNumber 12 = .ok (.iload_n 1, 1) := by decide +kernel
theorem dX9_isNumber_13 : decode cX9_isNumber 13 = .ok (.iload_n 2, 1) := by decide +kernel
theorem dX9_isNumber_14 : decode cX9_isNumber 14 = .ok (.invokestatic 128, 3) := by decide +kernel
theorem dX9_isNumber_17 : decode cX9_isNumber 17 = .ok (.ifCond .eq 7, 3) := by decide +kernel
theorem dX9_isNumber_20 : decode cX9_isNumber 20 = .ok (.iconst 1, 1) := by decide +kernel
theorem dX9_isNumber_21 : decode cX9_isNumber 21 = .ok (.goto 4, 3) := by decide +kernel
theorem dX9_isNumber_24 : decode cX9_isNumber 24 = .ok (.iconst 0, 1) := by decide +kernel
theorem dX9_isNumber_25 : decode cX9_isNumber 25 = .ok (.ireturn, 1) := by decide +kernel
def fX9_isNumber_25 (s0 : Int32) (h : gx_H) : Option (Int32 × gx_H) :=
  gx_ret .boolean s0 h
def fX9_isNumber_24 (h : gx_H) : Option (Int32 × gx_H) :=
  fX9_isNumber_25 (0 : Int32) h
def fX9_isNumber (v0 : Nat) (v1 : Int32) (v2 : Int32) (h : gx_H) : Option (Int32 × gx_H) :=
  (gx_isO h v0 7).bind fun _ =>
  (gx_fI h v0 7 4).bind fun x1 =>
  if x1 = (2 : Int32) then
    (gx_fI h v0 7 7).bind fun x2 =>
    gx_bd (fX10_within x2 v1 v2 h) fun x4 h3 =>
    if x4 = 0 then
      fX9_isNumber_24 h3
    else
      fX9_isNumber_25 (1 : Int32) h3
  else
    fX9_isNumber_24 h
set_option maxRecDepth 100000 in
set_option maxHeartbeats 4000000 in
theorem gX9_isNumber_25 {E : gx_Env} {d : Nat}  : ∀ (s0 : Int32) (h : gx_H), gx_G E RX9 cX9_isNumber 3 (some .boolean) false (d + 1) 0 0 25 [none, none, none] [.int s0] h (fun x : Int32 => some (.int x)) (fX9_isNumber_25 s0 h) := by
  intro s0 h
  unfold fX9_isNumber_25
  exact gx_zret dX9_isNumber_25 rfl
set_option maxRecDepth 100000 in
set_option maxHeartbeats 4000000 in
theorem gX9_isNumber_24 {E : gx_Env} {d : Nat}  : ∀  (h : gx_H), gx_G E RX9 cX9_isNumber 3 (some .boolean) false (d + 1) 0 0 24 [none, none, none] [] h (fun x : Int32 => some (.int x)) (fX9_isNumber_24 h) := by
  intro  h
  unfold fX9_isNumber_24
  refine gx_iconst (0 : Int32) dX9_isNumber_24 (by decide) ?_
  exact gx_sub (gX9_isNumber_25 (0 : Int32) h) True.intro
set_option maxRecDepth 100000 in
set_option maxHeartbeats 4000000 in
theorem geX9_isNumber {E : gx_Env} {d : Nat} (v0 : Nat) (v1 : Int32) (v2 : Int32) (h : gx_H) : gx_G E RX9 cX9_isNumber 3 (some .boolean) false (d + 1) 0 0 0 [some (.ref v0), some (.int v1), some (.int v2)] [] h (fun x : Int32 => some (.int x)) (fX9_isNumber v0 v1 v2 h) := by
  unfold fX9_isNumber
  refine gx_bind fun _ _ => ?_
  refine gx_aload_n 0 dX9_isNumber_0 rfl rfl ?_
  refine gx_getI kf_RX9_33 dX9_isNumber_1 (fun x1 => ?_)
  refine gx_iconst (2 : Int32) dX9_isNumber_4 (by decide) ?_
  refine gx_icmp_ne 24 dX9_isNumber_5 (by decide) (fun _ => ?_) (fun _ => ?_)
  · exact gx_sub (gX9_isNumber_24 h) True.intro
  · refine gx_aload_n 0 dX9_isNumber_8 rfl rfl ?_
    refine gx_getI kf_RX9_42 dX9_isNumber_9 (fun x2 => ?_)
    refine gx_iload_n 1 dX9_isNumber_12 rfl rfl ?_
    refine gx_iload_n 2 dX9_isNumber_13 rfl rfl ?_
    refine gx_callSN (bc := 0) (bs := 0) (mc := 0) (ms := 0) (em' := (fun x : Int32 => some (.int x))) [.int x2, .int v1, .int v2] kc_RX9_128 dX9_isNumber_14 rfl rfl (gx_w8 rfl) (fun _ _ q => okX10_within d q) (fun x4 h3 => ?_)
    refine gx_if_eq 24 dX9_isNumber_17 (by decide) (fun _ => ?_) (fun _ => ?_)
    · exact gx_sub (gX9_isNumber_24 h3) True.intro
    · refine gx_iconst (1 : Int32) dX9_isNumber_20 (by decide) ?_
      refine gx_goto 25 dX9_isNumber_21 (by decide) ?_
      exact gx_sub (gX9_isNumber_25 (1 : Int32) h3) True.intro
theorem okX9_isNumber {E : gx_Env} (d : Nat) {v0 : Nat} {v1 : Int32} {v2 : Int32} {h : gx_H} {r : Int32} {h1 : gx_H} (q : fX9_isNumber v0 v1 v2 h = some (r, h1)) : gx_M E yX9_isNumber cX9_isNumber 3 (some .boolean) (d + 1) 0 0 [.ref v0, .int v1, .int v2] h ((fun x : Int32 => some (.int x)) r) h1 := gx_meth (y := yX9_isNumber) (cc := cX9_isNumber) (nL := 3) (em := (fun x : Int32 => some (.int x))) (ini := false) [.ref v0, .int v1, .int v2] (by decide) (by simp [gx_sl]) (fun q => by cases q) (geX9_isNumber v0 v1 v2 h) q
theorem dX9_byteAt_0 : decode cX9_byteAt 0 = .ok (.iload_n 1, 1) := by decide +kernel
theorem dX9_byteAt_1 : decode cX9_byteAt 1 = .ok (.ifCond .lt 19, 3) := by decide +kernel
theorem dX9_byteAt_4 : decode cX9_byteAt 4 = .ok (.iload_n 1, 1) := by decide +kernel
theorem dX9_byteAt_5 : decode cX9_byteAt 5 = .ok (.sipush 150, 3) := by decide +kernel
theorem dX9_byteAt_8 : decode cX9_byteAt 8 = .ok (.if_icmp .ge 12, 3) := by decide +kernel
theorem dX9_byteAt_11 : decode cX9_byteAt 11 = .ok (.aload_n 0, 1) := by decide +kernel
theorem dX9_byteAt_12 : decode cX9_byteAt 12 = .ok (.getfield 22, 3) := by decide +kernel
theorem dX9_byteAt_15 : decode cX9_byteAt 15 = .ok (.iload_n 1, 1) := by decide +kernel
theorem dX9_byteAt_16 : decode cX9_byteAt 16 = .ok (.baload, 1) := by decide +kernel
theorem dX9_byteAt_17 : decode cX9_byteAt 17 = .ok (.goto 4, 3) := by decide +kernel
theorem dX9_byteAt_20 : decode cX9_byteAt 20 = .ok (.iconst (-1), 1) := by decide +kernel
theorem dX9_byteAt_21 : decode cX9_byteAt 21 = .ok (.ireturn, 1) := by decide +kernel
def fX9_byteAt_21 (s0 : Int32) (h : gx_H) : Option (Int32 × gx_H) :=
  some (s0, h)
def fX9_byteAt_20 (h : gx_H) : Option (Int32 × gx_H) :=
  fX9_byteAt_21 (-1 : Int32) h
def fX9_byteAt (v0 : Nat) (v1 : Int32) (h : gx_H) : Option (Int32 × gx_H) :=
  (gx_isO h v0 7).bind fun _ =>
  if v1 < 0 then
    fX9_byteAt_20 h
  else
    if (150 : Int32) ≤ v1 then
      fX9_byteAt_20 h
    else
      (gx_fR h v0 7 2).bind fun a1 =>
      (gx_aI 1 h a1 v1).bind fun x2 =>
      fX9_byteAt_21 x2 h
set_option maxRecDepth 100000 in
set_option maxHeartbeats 4000000 in
theorem gX9_byteAt_21 {E : gx_Env} {d : Nat}  : ∀ (s0 : Int32) (h : gx_H), gx_G E RX9 cX9_byteAt 2 (some .int) false d 0 0 21 [none, none] [.int s0] h (fun x : Int32 => some (.int x)) (fX9_byteAt_21 s0 h) := by
  intro s0 h
  unfold fX9_byteAt_21
  exact gx_iret dX9_byteAt_21 rfl
set_option maxRecDepth 100000 in
set_option maxHeartbeats 4000000 in
theorem gX9_byteAt_20 {E : gx_Env} {d : Nat}  : ∀  (h : gx_H), gx_G E RX9 cX9_byteAt 2 (some .int) false d 0 0 20 [none, none] [] h (fun x : Int32 => some (.int x)) (fX9_byteAt_20 h) := by
  intro  h
  unfold fX9_byteAt_20
  refine gx_iconst (-1 : Int32) dX9_byteAt_20 (by decide) ?_
  exact gx_sub (gX9_byteAt_21 (-1 : Int32) h) True.intro
set_option maxRecDepth 100000 in
set_option maxHeartbeats 4000000 in
theorem geX9_byteAt {E : gx_Env} {d : Nat} (v0 : Nat) (v1 : Int32) (h : gx_H) : gx_G E RX9 cX9_byteAt 2 (some .int) false d 0 0 0 [some (.ref v0), some (.int v1)] [] h (fun x : Int32 => some (.int x)) (fX9_byteAt v0 v1 h) := by
  unfold fX9_byteAt
  refine gx_bind fun _ _ => ?_
  refine gx_iload_n 1 dX9_byteAt_0 rfl rfl ?_
  refine gx_if_lt 20 dX9_byteAt_1 (by decide) (fun _ => ?_) (fun _ => ?_)
  · exact gx_sub (gX9_byteAt_20 h) True.intro
  · refine gx_iload_n 1 dX9_byteAt_4 rfl rfl ?_
    refine gx_sipush (150 : Int32) dX9_byteAt_5 (by decide) ?_
    refine gx_icmp_ge 20 dX9_byteAt_8 (by decide) (fun _ => ?_) (fun _ => ?_)
    · exact gx_sub (gX9_byteAt_20 h) True.intro
    · refine gx_aload_n 0 dX9_byteAt_11 rfl rfl ?_
      refine gx_getR kf_RX9_22 dX9_byteAt_12 (fun a1 => ?_)
      refine gx_iload_n 1 dX9_byteAt_15 rfl rfl ?_
      refine gx_bald dX9_byteAt_16 (fun x2 => ?_)
      refine gx_goto 21 dX9_byteAt_17 (by decide) ?_
      exact gx_sub (gX9_byteAt_21 x2 h) True.intro
theorem okX9_byteAt {E : gx_Env} (d : Nat) {v0 : Nat} {v1 : Int32} {h : gx_H} {r : Int32} {h1 : gx_H} (q : fX9_byteAt v0 v1 h = some (r, h1)) : gx_M E yX9_byteAt cX9_byteAt 2 (some .int) d 0 0 [.ref v0, .int v1] h ((fun x : Int32 => some (.int x)) r) h1 := gx_meth (y := yX9_byteAt) (cc := cX9_byteAt) (nL := 2) (em := (fun x : Int32 => some (.int x))) (ini := false) [.ref v0, .int v1] (by decide) (by simp [gx_sl]) (fun q => by cases q) (geX9_byteAt v0 v1 h) q
theorem dX9_valueOf_0 : decode cX9_valueOf 0 = .ok (.aload_n 0, 1) := by decide +kernel
theorem dX9_valueOf_1 : decode cX9_valueOf 1 = .ok (.aload_n 0, 1) := by decide +kernel
theorem dX9_valueOf_2 : decode cX9_valueOf 2 = .ok (.getfield 36, 3) := by decide +kernel
theorem dX9_valueOf_5 : decode cX9_valueOf 5 = .ok (.invokevirtual 137, 3) := by decide +kernel
theorem dX9_valueOf_8 : decode cX9_valueOf 8 = .ok (.bipush 48, 2) := by decide +kernel
theorem dX9_valueOf_10 : decode cX9_valueOf 10 = .ok (.isub, 1) := by decide +kernel
theorem dX9_valueOf_11 : decode cX9_valueOf 11 = .ok (.istore_n 2, 1) := by decide +kernel
theorem dX9_valueOf_12 : decode cX9_valueOf 12 = .ok (.iload_n 1, 1) := by decide +kernel
theorem dX9_valueOf_13 : decode cX9_valueOf 13 = .ok (.iconst 1, 1) := by decide +kernel
theorem dX9_valueOf_14 : decode cX9_valueOf 14 = .ok (.if_icmp .ne 7, 3) := by decide +kernel
theorem dX9_valueOf_17 : decode cX9_valueOf 17 = .ok (.iload_n 2, 1) := by decide +kernel
theorem dX9_valueOf_18 : decode cX9_valueOf 18 = .ok (.goto 21, 3) := by decide +kernel
theorem dX9_valueOf_21 : decode cX9_valueOf 21 = .ok (.bipush 10, 2) := by decide +kernel
theorem dX9_valueOf_23 : decode cX9_valueOf 23 = .ok (.iload_n 2, 1) := by decide +kernel
theorem dX9_valueOf_24 : decode cX9_valueOf 24 = .ok (.imul, 1) := by decide +kernel
theorem dX9_valueOf_25 : decode cX9_valueOf 25 = .ok (.aload_n 0, 1) := by decide +kernel
theorem dX9_valueOf_26 : decode cX9_valueOf 26 = .ok (.aload_n 0, 1) := by decide +kernel
theorem dX9_valueOf_27 : decode cX9_valueOf 27 = .ok (.getfield 36, 3) := by decide +kernel
theorem dX9_valueOf_30 : decode cX9_valueOf 30 = .ok (.iconst 1, 1) := by decide +kernel
theorem dX9_valueOf_31 : decode cX9_valueOf 31 = .ok (.iadd, 1) := by decide +kernel
theorem dX9_valueOf_32 : decode cX9_valueOf 32 = .ok (.invokevirtual 137, 3) := by decide +kernel
theorem dX9_valueOf_35 : decode cX9_valueOf 35 = .ok (.iadd, 1) := by decide +kernel
theorem dX9_valueOf_36 : decode cX9_valueOf 36 = .ok (.bipush 48, 2) := by decide +kernel
theorem dX9_valueOf_38 : decode cX9_valueOf 38 = .ok (.isub, 1) := by decide +kernel
theorem dX9_valueOf_39 : decode cX9_valueOf 39 = .ok (.ireturn, 1) := by decide +kernel
def fX9_valueOf_39 (s0 : Int32) (h : gx_H) : Option (Int32 × gx_H) :=
  some (s0, h)
def fX9_valueOf (v0 : Nat) (v1 : Int32) (h : gx_H) : Option (Int32 × gx_H) :=
  (gx_isO h v0 7).bind fun _ =>
  (gx_fI h v0 7 5).bind fun x1 =>
  gx_bd (fX9_byteAt v0 x1 h) fun x3 h2 =>
  if v1 = (1 : Int32) then
    fX9_valueOf_39 (x3 - (48 : Int32)) h2
  else
    (gx_fI h2 v0 7 5).bind fun x4 =>
    gx_bd (fX9_byteAt v0 (x4 + (1 : Int32)) h2) fun x6 h5 =>
    fX9_valueOf_39 ((((10 : Int32) * (x3 - (48 : Int32))) + x6) - (48 : Int32)) h5
set_option maxRecDepth 100000 in
set_option maxHeartbeats 4000000 in
theorem gX9_valueOf_39 {E : gx_Env} {d : Nat}  : ∀ (s0 : Int32) (h : gx_H), gx_G E RX9 cX9_valueOf 3 (some .int) false (d + 1) 0 0 39 [none, none, none] [.int s0] h (fun x : Int32 => some (.int x)) (fX9_valueOf_39 s0 h) := by
  intro s0 h
  unfold fX9_valueOf_39
  exact gx_iret dX9_valueOf_39 rfl
set_option maxRecDepth 100000 in
set_option maxHeartbeats 4000000 in
theorem geX9_valueOf {E : gx_Env} {d : Nat} (v0 : Nat) (v1 : Int32) (h : gx_H) : gx_G E RX9 cX9_valueOf 3 (some .int) false (d + 1) 0 0 0 [some (.ref v0), some (.int v1), none] [] h (fun x : Int32 => some (.int x)) (fX9_valueOf v0 v1 h) := by
  unfold fX9_valueOf
  refine gx_bind fun _ _ => ?_
  refine gx_aload_n 0 dX9_valueOf_0 rfl rfl ?_
  refine gx_aload_n 0 dX9_valueOf_1 rfl rfl ?_
  refine gx_getI kf_RX9_36 dX9_valueOf_2 (fun x1 => ?_)
  refine gx_callV (ci := 7) (bc := 0) (bs := 0) (mc := 0) (ms := 0) (em' := (fun x : Int32 => some (.int x))) [.int x1] kc_RX9_137 rfl dX9_valueOf_5 rfl rfl (gx_w8 rfl) (fun x q => (gx_isO_of (by unfold fX9_byteAt at q; exact q)).2) (fun _ _ q => okX9_byteAt d q) (fun x3 h2 => ?_)
  refine gx_bipush (48 : Int32) dX9_valueOf_8 (by decide) ?_
  refine gx_isub dX9_valueOf_10 ?_
  refine gx_istore_n 2 [some (.ref v0), some (.int v1), some (.int (x3 - (48 : Int32)))] dX9_valueOf_11 rfl (by decide) rfl ?_
  refine gx_iload_n 1 dX9_valueOf_12 rfl rfl ?_
  refine gx_iconst (1 : Int32) dX9_valueOf_13 (by decide) ?_
  refine gx_icmp_ne 21 dX9_valueOf_14 (by decide) (fun _ => ?_) (fun _ => ?_)
  · refine gx_bipush (10 : Int32) dX9_valueOf_21 (by decide) ?_
    refine gx_iload_n 2 dX9_valueOf_23 rfl rfl ?_
    refine gx_imul dX9_valueOf_24 ?_
    refine gx_aload_n 0 dX9_valueOf_25 rfl rfl ?_
    refine gx_aload_n 0 dX9_valueOf_26 rfl rfl ?_
    refine gx_getI kf_RX9_36 dX9_valueOf_27 (fun x4 => ?_)
    refine gx_iconst (1 : Int32) dX9_valueOf_30 (by decide) ?_
    refine gx_iadd dX9_valueOf_31 ?_
    refine gx_callV (ci := 7) (bc := 0) (bs := 0) (mc := 0) (ms := 0) (em' := (fun x : Int32 => some (.int x))) [.int (x4 + (1 : Int32))] kc_RX9_137 rfl dX9_valueOf_32 rfl rfl (gx_w8 rfl) (fun x q => (gx_isO_of (by unfold fX9_byteAt at q; exact q)).2) (fun _ _ q => okX9_byteAt d q) (fun x6 h5 => ?_)
    refine gx_iadd dX9_valueOf_35 ?_
    refine gx_bipush (48 : Int32) dX9_valueOf_36 (by decide) ?_
    refine gx_isub dX9_valueOf_38 ?_
    exact gx_sub (gX9_valueOf_39 ((((10 : Int32) * (x3 - (48 : Int32))) + x6) - (48 : Int32)) h5) True.intro
  · refine gx_iload_n 2 dX9_valueOf_17 rfl rfl ?_
    refine gx_goto 39 dX9_valueOf_18 (by decide) ?_
    exact gx_sub (gX9_valueOf_39 (x3 - (48 : Int32)) h2) True.intro
theorem okX9_valueOf {E : gx_Env} (d : Nat) {v0 : Nat} {v1 : Int32} {h : gx_H} {r : Int32} {h1 : gx_H} (q : fX9_valueOf v0 v1 h = some (r, h1)) : gx_M E yX9_valueOf cX9_valueOf 3 (some .int) (d + 1) 0 0 [.ref v0, .int v1] h ((fun x : Int32 => some (.int x)) r) h1 := gx_meth (y := yX9_valueOf) (cc := cX9_valueOf) (nL := 3) (em := (fun x : Int32 => some (.int x))) (ini := false) [.ref v0, .int v1] (by decide) (by simp [gx_sl]) (fun q => by cases q) (geX9_valueOf v0 v1 h) q
theorem dX9_runEnd_0 : decode cX9_runEnd 0 = .ok (.iload_n 1, 1) := by decide +kernel
theorem dX9_runEnd_1 : decode cX9_runEnd 1 = .ok (.istore 4, 2) := by decide +kernel
theorem dX9_runEnd_3 : decode cX9_runEnd 3 = .ok (.iload 4, 2) := by decide +kernel
theorem dX9_runEnd_5 : decode cX9_runEnd 5 = .ok (.aload_n 0, 1) := by decide +kernel
theorem dX9_runEnd_6 : decode cX9_runEnd 6 = .ok (.getfield 9, 3) := by decide +kernel
theorem dX9_runEnd_9 : decode cX9_runEnd 9 = .ok (.if_icmp .ge 29, 3) := by decide +kernel
theorem dX9_runEnd_12 : decode cX9_runEnd 12 = .ok (.aload_n 0, 1) := by decide +kernel
theorem dX9_runEnd_13 : decode cX9_runEnd 13 = .ok (.iload 4, 2) := by decide +kernel
theorem dX9_runEnd_15 : decode cX9_runEnd 15 = .ok (.invokevirtual 137, 3) := by decide +kernel
theorem dX9_runEnd_18 : decode cX9_runEnd 18 = .ok (.iload_n 2, 1) := by decide +kernel
theorem dX9_runEnd_19 : decode cX9_runEnd 19 = .ok (.if_icmp .lt 19, 3) := by decide +kernel
theorem dX9_runEnd_22 : decode cX9_runEnd 22 = .ok (.aload_n 0, 1) := by decide +kernel
theorem dX9_runEnd_23 : decode cX9_runEnd 23 = .ok (.iload 4, 2) := by decide +kernel
theorem dX9_runEnd_25 : decode cX9_runEnd 25 = .ok (.invokevirtual 137, 3) := by decide +kernel
theorem dX9_runEnd_28 : decode cX9_runEnd 28 = .ok (.iload_n 3, 1) := by decide +kernel
theorem dX9_runEnd_29 : decode cX9_runEnd 29 = .ok (.if_icmp .gt 9, 3) := by decide +kernel
theorem dX9_runEnd_32 : decode cX9_runEnd 32 = .ok (.iinc 4 1, 3) := by decide +kernel
theorem dX9_runEnd_35 : decode cX9_runEnd 35 = .ok (.goto (-32), 3) := by decide +kernel
theorem dX9_runEnd_38 : decode cX9_runEnd 38 = .ok (.iload 4, 2) := by decide +kernel
theorem dX9_runEnd_40 : decode cX9_runEnd 40 = .ok (.ireturn, 1) := by decide +kernel
def fX9_runEnd_38 (v4 : Int32) (h : gx_H) : Option (Int32 × gx_H) :=
  some (v4, h)
def bX9_runEnd_3 (k3 : Nat → Int32 → Int32 → Int32 → gx_H → Option (Int32 × gx_H)) (v0 : Nat) (v2 : Int32) (v3 : Int32) (v4 : Int32) (h : gx_H) : Option (Int32 × gx_H) :=
  (gx_fI h v0 7 0).bind fun x1 =>
  if x1 ≤ v4 then
    fX9_runEnd_38 v4 h
  else
    gx_bd (fX9_byteAt v0 v4 h) fun x3 h2 =>
    if x3 < v2 then
      fX9_runEnd_38 v4 h2
    else
      gx_bd (fX9_byteAt v0 v4 h2) fun x5 h4 =>
      if v3 < x5 then
        fX9_runEnd_38 v4 h4
      else
        k3 v0 v2 v3 (v4 + (1 : Int32)) h4
def fX9_runEnd_3 : Nat → Nat → Int32 → Int32 → Int32 → gx_H → Option (Int32 × gx_H)
  | 0 => fun _ _ _ _ _ => none
  | n + 1 => bX9_runEnd_3 (fX9_runEnd_3 n)
def fX9_runEnd (v0 : Nat) (v1 : Int32) (v2 : Int32) (v3 : Int32) (h : gx_H) : Option (Int32 × gx_H) :=
  (gx_isO h v0 7).bind fun _ =>
  fX9_runEnd_3 gx_N v0 v2 v3 v1 h
set_option maxRecDepth 100000 in
set_option maxHeartbeats 4000000 in
theorem gX9_runEnd_38 {E : gx_Env} {d : Nat}  : ∀ (v4 : Int32) (h : gx_H), gx_G E RX9 cX9_runEnd 5 (some .int) false (d + 1) 0 0 38 [none, none, none, none, some (.int v4)] [] h (fun x : Int32 => some (.int x)) (fX9_runEnd_38 v4 h) := by
  intro v4 h
  unfold fX9_runEnd_38
  refine gx_iload dX9_runEnd_38 rfl ?_
  exact gx_iret dX9_runEnd_40 rfl
set_option maxRecDepth 100000 in
set_option maxHeartbeats 4000000 in
theorem gbX9_runEnd_3 {E : gx_Env} {d : Nat}  (k3 : Nat → Int32 → Int32 → Int32 → gx_H → Option (Int32 × gx_H)) (hk3 : ∀ (v0 : Nat) (v2 : Int32) (v3 : Int32) (v4 : Int32) (h : gx_H), gx_G E RX9 cX9_runEnd 5 (some .int) false (d + 1) 0 0 3 [some (.ref v0), none, some (.int v2), some (.int v3), some (.int v4)] [] h (fun x : Int32 => some (.int x)) (k3 v0 v2 v3 v4 h))  : ∀ (v0 : Nat) (v2 : Int32) (v3 : Int32) (v4 : Int32) (h : gx_H), gx_G E RX9 cX9_runEnd 5 (some .int) false (d + 1) 0 0 3 [some (.ref v0), none, some (.int v2), some (.int v3), some (.int v4)] [] h (fun x : Int32 => some (.int x)) (bX9_runEnd_3 k3 v0 v2 v3 v4 h) := by
  intro v0 v2 v3 v4 h
  unfold bX9_runEnd_3
  refine gx_iload dX9_runEnd_3 rfl ?_
  refine gx_aload_n 0 dX9_runEnd_5 rfl rfl ?_
  refine gx_getI kf_RX9_9 dX9_runEnd_6 (fun x1 => ?_)
  refine gx_icmp_ge 38 dX9_runEnd_9 (by decide) (fun _ => ?_) (fun _ => ?_)
  · exact gx_sub (gX9_runEnd_38 v4 h) (And.intro rfl True.intro)
  · refine gx_aload_n 0 dX9_runEnd_12 rfl rfl ?_
    refine gx_iload dX9_runEnd_13 rfl ?_
    refine gx_callV (ci := 7) (bc := 0) (bs := 0) (mc := 0) (ms := 0) (em' := (fun x : Int32 => some (.int x))) [.int v4] kc_RX9_137 rfl dX9_runEnd_15 rfl rfl (gx_w8 rfl) (fun x q => (gx_isO_of (by unfold fX9_byteAt at q; exact q)).2) (fun _ _ q => okX9_byteAt d q) (fun x3 h2 => ?_)
    refine gx_iload_n 2 dX9_runEnd_18 rfl rfl ?_
    refine gx_icmp_lt 38 dX9_runEnd_19 (by decide) (fun _ => ?_) (fun _ => ?_)
    · exact gx_sub (gX9_runEnd_38 v4 h2) (And.intro rfl True.intro)
    · refine gx_aload_n 0 dX9_runEnd_22 rfl rfl ?_
      refine gx_iload dX9_runEnd_23 rfl ?_
      refine gx_callV (ci := 7) (bc := 0) (bs := 0) (mc := 0) (ms := 0) (em' := (fun x : Int32 => some (.int x))) [.int v4] kc_RX9_137 rfl dX9_runEnd_25 rfl rfl (gx_w8 rfl) (fun x q => (gx_isO_of (by unfold fX9_byteAt at q; exact q)).2) (fun _ _ q => okX9_byteAt d q) (fun x5 h4 => ?_)
      refine gx_iload_n 3 dX9_runEnd_28 rfl rfl ?_
      refine gx_icmp_gt 38 dX9_runEnd_29 (by decide) (fun _ => ?_) (fun _ => ?_)
      · exact gx_sub (gX9_runEnd_38 v4 h4) (And.intro rfl True.intro)
      · refine gx_iinc (1 : Int32) [some (.ref v0), none, some (.int v2), some (.int v3), some (.int (v4 + (1 : Int32)))] dX9_runEnd_32 rfl (by decide) (by decide) rfl ?_
        refine gx_goto 3 dX9_runEnd_35 (by decide) ?_
        exact gx_sub (hk3 v0 v2 v3 (v4 + (1 : Int32)) h4) (And.intro rfl (And.intro rfl (And.intro rfl (And.intro rfl True.intro))))
set_option maxRecDepth 100000 in
set_option maxHeartbeats 4000000 in
theorem gX9_runEnd_3 {E : gx_Env} {d : Nat}  : ∀ (n : Nat) (v0 : Nat) (v2 : Int32) (v3 : Int32) (v4 : Int32) (h : gx_H), gx_G E RX9 cX9_runEnd 5 (some .int) false (d + 1) 0 0 3 [some (.ref v0), none, some (.int v2), some (.int v3), some (.int v4)] [] h (fun x : Int32 => some (.int x)) (fX9_runEnd_3 n v0 v2 v3 v4 h) := by
  intro n
  induction n with
  | zero => intro v0 v2 v3 v4 h; exact gx_none
  | succ n ih => exact gbX9_runEnd_3  (fX9_runEnd_3  n) ih
set_option maxRecDepth 100000 in
set_option maxHeartbeats 4000000 in
theorem geX9_runEnd {E : gx_Env} {d : Nat} (v0 : Nat) (v1 : Int32) (v2 : Int32) (v3 : Int32) (h : gx_H) : gx_G E RX9 cX9_runEnd 5 (some .int) false (d + 1) 0 0 0 [some (.ref v0), some (.int v1), some (.int v2), some (.int v3), none] [] h (fun x : Int32 => some (.int x)) (fX9_runEnd v0 v1 v2 v3 h) := by
  unfold fX9_runEnd
  refine gx_bind fun _ _ => ?_
  refine gx_iload_n 1 dX9_runEnd_0 rfl rfl ?_
  refine gx_istore [some (.ref v0), some (.int v1), some (.int v2), some (.int v3), some (.int v1)] dX9_runEnd_1 (by decide) rfl ?_
  exact gx_sub (gX9_runEnd_3 gx_N v0 v2 v3 v1 h) (And.intro rfl (And.intro rfl (And.intro rfl (And.intro rfl True.intro))))
theorem okX9_runEnd {E : gx_Env} (d : Nat) {v0 : Nat} {v1 : Int32} {v2 : Int32} {v3 : Int32} {h : gx_H} {r : Int32} {h1 : gx_H} (q : fX9_runEnd v0 v1 v2 v3 h = some (r, h1)) : gx_M E yX9_runEnd cX9_runEnd 5 (some .int) (d + 1) 0 0 [.ref v0, .int v1, .int v2, .int v3] h ((fun x : Int32 => some (.int x)) r) h1 := gx_meth (y := yX9_runEnd) (cc := cX9_runEnd) (nL := 5) (em := (fun x : Int32 => some (.int x))) (ini := false) [.ref v0, .int v1, .int v2, .int v3] (by decide) (by simp [gx_sl]) (fun q => by cases q) (geX9_runEnd v0 v1 v2 v3 h) q
theorem dX9_nextToken_0 : decode cX9_nextToken 0 = .ok (.aload_n 0, 1) := by decide +kernel
theorem dX9_nextToken_1 : decode cX9_nextToken 1 = .ok (.aload_n 0, 1) := by decide +kernel
theorem dX9_nextToken_2 : decode cX9_nextToken 2 = .ok (.aload_n 0, 1) := by decide +kernel
theorem dX9_nextToken_3 : decode cX9_nextToken 3 = .ok (.getfield 39, 3) := by decide +kernel
theorem dX9_nextToken_6 : decode cX9_nextToken 6 = .ok (.bipush 32, 2) := by decide +kernel
theorem dX9_nextToken_8 : decode cX9_nextToken 8 = .ok (.bipush 32, 2) := by decide +kernel
theorem dX9_nextToken_10 : decode cX9_nextToken 10 = .ok (.invokevirtual 144, 3) := by decide +kernel
theorem dX9_nextToken_13 : decode cX9_nextToken 13 = .ok (.putfield 36, 3) := by decide +kernel
theorem dX9_nextToken_16 : decode cX9_nextToken 16 = .ok (.aload_n 0, 1) := by decide +kernel
theorem dX9_nextToken_17 : decode cX9_nextToken 17 = .ok (.aload_n 0, 1) := by decide +kernel
theorem dX9_nextToken_18 : decode cX9_nextToken 18 = .ok (.getfield 36, 3) := by decide +kernel
theorem dX9_nextToken_21 : decode cX9_nextToken 21 = .ok (.bipush 97, 2) := by decide +kernel
theorem dX9_nextToken_23 : decode cX9_nextToken 23 = .ok (.bipush 122, 2) := by decide +kernel
theorem dX9_nextToken_25 : decode cX9_nextToken 25 = .ok (.invokevirtual 144, 3) := by decide +kernel
theorem dX9_nextToken_28 : decode cX9_nextToken 28 = .ok (.aload_n 0, 1) := by decide +kernel
theorem dX9_nextToken_29 : decode cX9_nextToken 29 = .ok (.getfield 36, 3) := by decide +kernel
theorem dX9_nextToken_32 : decode cX9_nextToken 32 = .ok (.isub, 1) := by decide +kernel
theorem dX9_nextToken_33 : decode cX9_nextToken 33 = .ok (.istore_n 1, 1) := by decide +kernel
theorem dX9_nextToken_34 : decode cX9_nextToken 34 = .ok (.aload_n 0, 1) := by decide +kernel
theorem dX9_nextToken_35 : decode cX9_nextToken 35 = .ok (.aload_n 0, 1) := by decide +kernel
theorem dX9_nextToken_36 : decode cX9_nextToken 36 = .ok (.getfield 36, 3) := by decide +kernel
theorem dX9_nextToken_39 : decode cX9_nextToken 39 = .ok (.bipush 48, 2) := by decide +kernel
theorem dX9_nextToken_41 : decode cX9_nextToken 41 = .ok (.bipush 57, 2) := by decide +kernel
theorem dX9_nextToken_43 : decode cX9_nextToken 43 = .ok (.invokevirtual 144, 3) := by decide +kernel
theorem dX9_nextToken_46 : decode cX9_nextToken 46 = .ok (.aload_n 0, 1) := by decide +kernel
theorem dX9_nextToken_47 : decode cX9_nextToken 47 = .ok (.getfield 36, 3) := by decide +kernel
theorem dX9_nextToken_50 : decode cX9_nextToken 50 = .ok (.isub, 1) := by decide +kernel
theorem dX9_nextToken_51 : decode cX9_nextToken 51 = .ok (.istore_n 2, 1) := by decide +kernel
theorem dX9_nextToken_52 : decode cX9_nextToken 52 = .ok (.aload_n 0, 1) := by decide +kernel
theorem dX9_nextToken_53 : decode cX9_nextToken 53 = .ok (.getfield 36, 3) := by decide +kernel
theorem dX9_nextToken_56 : decode cX9_nextToken 56 = .ok (.aload_n 0, 1) := by decide +kernel
theorem dX9_nextToken_57 : decode cX9_nextToken 57 = .ok (.getfield 9, 3) := by decide +kernel
theorem dX9_nextToken_60 : decode cX9_nextToken 60 = .ok (.if_icmp .lt 19, 3) := by decide +kernel
theorem dX9_nextToken_63 : decode cX9_nextToken 63 = .ok (.aload_n 0, 1) := by decide +kernel
theorem dX9_nextToken_64 : decode cX9_nextToken 64 = .ok (.aload_n 0, 1) := by decide +kernel
theorem dX9_nextToken_65 : decode cX9_nextToken 65 = .ok (.getfield 36, 3) := by decide +kernel
theorem dX9_nextToken_68 : decode cX9_nextToken 68 = .ok (.putfield 39, 3) := by decide +kernel
theorem dX9_nextToken_71 : decode cX9_nextToken 71 = .ok (.aload_n 0, 1) := by decide +kernel
theorem dX9_nextToken_72 : decode cX9_nextToken 72 = .ok (.iconst 0, 1) := by decide +kernel
theorem dX9_nextToken_73 : decode cX9_nextToken 73 = .ok (.putfield 33, 3) := by decide +kernel
theorem dX9_nextToken_76 : decode cX9_nextToken 76 = .ok (.goto 97, 3) := by decide +kernel
theorem dX9_nextToken_79 : decode cX9_nextToken 79 = .ok (.iload_n 1, 1) := by decide +kernel
theorem dX9_nextToken_80 : decode cX9_nextToken 80 = .ok (.ifCond .le 21, 3) := by decide +kernel
theorem dX9_nextToken_83 : decode cX9_nextToken 83 = .ok (.aload_n 0, 1) := by decide +kernel
theorem dX9_nextToken_84 : decode cX9_nextToken 84 = .ok (.aload_n 0, 1) := by decide +kernel
theorem dX9_nextToken_85 : decode cX9_nextToken 85 = .ok (.getfield 36, 3) := by decide +kernel
theorem dX9_nextToken_88 : decode cX9_nextToken 88 = .ok (.iload_n 1, 1) := by decide +kernel
theorem dX9_nextToken_89 : decode cX9_nextToken 89 = .ok (.iadd, 1) := by decide +kernel
theorem dX9_nextToken_90 : decode cX9_nextToken 90 = .ok (.putfield 39, 3) := by decide +kernel
theorem dX9_nextToken_93 : decode cX9_nextToken 93 = .ok (.aload_n 0, 1) := by decide +kernel
theorem dX9_nextToken_94 : decode cX9_nextToken 94 = .ok (.iconst 1, 1) := by decide +kernel
theorem dX9_nextToken_95 : decode cX9_nextToken 95 = .ok (.putfield 33, 3) := by decide +kernel
theorem dX9_nextToken_98 : decode cX9_nextToken 98 = .ok (.goto 75, 3) := by decide +kernel
theorem dX9_nextToken_101 : decode cX9_nextToken 101 = .ok (.iload_n 2, 1) := by decide +kernel
theorem dX9_nextToken_102 : decode cX9_nextToken 102 = .ok (.ifCond .le 39, 3) := by decide +kernel
theorem dX9_nextToken_105 : decode cX9_nextToken 105 = .ok (.aload_n 0, 1) := by decide +kernel
theorem dX9_nextToken_106 : decode cX9_nextToken 106 = .ok (.aload_n 0, 1) := by decide +kernel
theorem dX9_nextToken_107 : decode cX9_nextToken 107 = .ok (.getfield 36, 3) := by decide +kernel
theorem dX9_nextToken_110 : decode cX9_nextToken 110 = .ok (.iload_n 2, 1) := by decide +kernel
theorem dX9_nextToken_111 : decode cX9_nextToken 111 = .ok (.iadd, 1) := by decide +kernel
theorem dX9_nextToken_112 : decode cX9_nextToken 112 = .ok (.putfield 39, 3) := by decide +kernel
theorem dX9_nextToken_115 : decode cX9_nextToken 115 = .ok (.aload_n 0, 1) := by decide +kernel
theorem dX9_nextToken_116 : decode cX9_nextToken 116 = .ok (.iload_n 2, 1) := by decide +kernel
theorem dX9_nextToken_117 : decode cX9_nextToken 117 = .ok (.iconst 2, 1) := by decide +kernel
theorem dX9_nextToken_118 : decode cX9_nextToken 118 = .ok (.if_icmp .gt 7, 3) := by decide +kernel
theorem dX9_nextToken_121 : decode cX9_nextToken 121 = .ok (.iconst 2, 1) := by decide +kernel
theorem dX9_nextToken_122 : decode cX9_nextToken 122 = .ok (.goto 4, 3) := by decide +kernel
theorem dX9_nextToken_125 : decode cX9_nextToken 125 = .ok (.iconst 4, 1) := by decide +kernel
theorem dX9_nextToken_126 : decode cX9_nextToken 126 = .ok (.putfield 33, 3) := by decide +kernel
theorem dX9_nextToken_129 : decode cX9_nextToken 129 = .ok (.aload_n 0, 1) := by decide +kernel
theorem dX9_nextToken_130 : decode cX9_nextToken 130 = .ok (.aload_n 0, 1) := by decide +kernel
theorem dX9_nextToken_131 : decode cX9_nextToken 131 = .ok (.iload_n 2, 1) := by decide +kernel
theorem dX9_nextToken_132 : decode cX9_nextToken 132 = .ok (.invokevirtual 147, 3) := by decide +kernel
theorem dX9_nextToken_135 : decode cX9_nextToken 135 = .ok (.putfield 42, 3) := by decide +kernel
theorem dX9_nextToken_138 : decode cX9_nextToken 138 = .ok (.goto 35, 3) := by decide +kernel
theorem dX9_nextToken_141 : decode cX9_nextToken 141 = .ok (.aload_n 0, 1) := by decide +kernel
theorem dX9_nextToken_142 : decode cX9_nextToken 142 = .ok (.aload_n 0, 1) := by decide +kernel
theorem dX9_nextToken_143 : decode cX9_nextToken 143 = .ok (.getfield 36, 3) := by decide +kernel
theorem dX9_nextToken_146 : decode cX9_nextToken 146 = .ok (.iconst 1, 1) := by decide +kernel
theorem dX9_nextToken_147 : decode cX9_nextToken 147 = .ok (.iadd, 1) := by decide +kernel
theorem dX9_nextToken_148 : decode cX9_nextToken 148 = .ok (.putfield 39, 3) := by decide +kernel
theorem dX9_nextToken_151 : decode cX9_nextToken 151 = .ok (.aload_n 0, 1) := by decide +kernel
theorem dX9_nextToken_152 : decode cX9_nextToken 152 = .ok (.aload_n 0, 1) := by decide +kernel
theorem dX9_nextToken_153 : decode cX9_nextToken 153 = .ok (.aload_n 0, 1) := by decide +kernel
theorem dX9_nextToken_154 : decode cX9_nextToken 154 = .ok (.getfield 36, 3) := by decide +kernel
theorem dX9_nextToken_157 : decode cX9_nextToken 157 = .ok (.invokevirtual 137, 3) := by decide +kernel
theorem dX9_nextToken_160 : decode cX9_nextToken 160 = .ok (.bipush 59, 2) := by decide +kernel
theorem dX9_nextToken_162 : decode cX9_nextToken 162 = .ok (.if_icmp .ne 7, 3) := by decide +kernel
theorem dX9_nextToken_165 : decode cX9_nextToken 165 = .ok (.iconst 3, 1) := by decide +kernel
theorem dX9_nextToken_166 : decode cX9_nextToken 166 = .ok (.goto 4, 3) := by decide +kernel
theorem dX9_nextToken_169 : decode cX9_nextToken 169 = .ok (.iconst 4, 1) := by decide +kernel
theorem dX9_nextToken_170 : decode cX9_nextToken 170 = .ok (.putfield 33, 3) := by decide +kernel
theorem dX9_nextToken_173 : decode cX9_nextToken 173 = .ok (.return_, 1) := by decide +kernel
def fX9_nextToken_173 (h : gx_H) : Option (Unit × gx_H) :=
  some ((), h)
def fX9_nextToken_126 (v0 : Nat) (v2 : Int32) (s0 : Nat) (s1 : Int32) (h : gx_H) : Option (Unit × gx_H) :=
  (gx_pF h s0 7 4 (.int s1)).bind fun h29 =>
  gx_bd (fX9_valueOf v0 v2 h29) fun x31 h30 =>
  (gx_pF h30 v0 7 7 (.int x31)).bind fun h32 =>
  fX9_nextToken_173 h32
def fX9_nextToken_170 (s0 : Nat) (s1 : Int32) (h : gx_H) : Option (Unit × gx_H) :=
  (gx_pF h s0 7 4 (.int s1)).bind fun h28 =>
  fX9_nextToken_173 h28
def fX9_nextToken (v0 : Nat) (h : gx_H) : Option (Unit × gx_H) :=
  (gx_isO h v0 7).bind fun _ =>
  (gx_fI h v0 7 6).bind fun x1 =>
  gx_bd (fX9_runEnd v0 x1 (32 : Int32) (32 : Int32) h) fun x3 h2 =>
  (gx_pF h2 v0 7 5 (.int x3)).bind fun h4 =>
  (gx_fI h4 v0 7 5).bind fun x5 =>
  gx_bd (fX9_runEnd v0 x5 (97 : Int32) (122 : Int32) h4) fun x7 h6 =>
  (gx_fI h6 v0 7 5).bind fun x8 =>
  (gx_fI h6 v0 7 5).bind fun x9 =>
  gx_bd (fX9_runEnd v0 x9 (48 : Int32) (57 : Int32) h6) fun x11 h10 =>
  (gx_fI h10 v0 7 5).bind fun x12 =>
  (gx_fI h10 v0 7 5).bind fun x13 =>
  (gx_fI h10 v0 7 0).bind fun x14 =>
  if x13 < x14 then
    if (x7 - x8) ≤ 0 then
      if (x11 - x12) ≤ 0 then
        (gx_fI h10 v0 7 5).bind fun x15 =>
        (gx_pF h10 v0 7 6 (.int (x15 + (1 : Int32)))).bind fun h16 =>
        (gx_fI h16 v0 7 5).bind fun x17 =>
        gx_bd (fX9_byteAt v0 x17 h16) fun x19 h18 =>
        if x19 = (59 : Int32) then
          fX9_nextToken_170 v0 (3 : Int32) h18
        else
          fX9_nextToken_170 v0 (4 : Int32) h18
      else
        (gx_fI h10 v0 7 5).bind fun x20 =>
        (gx_pF h10 v0 7 6 (.int (x20 + (x11 - x12)))).bind fun h21 =>
        if (2 : Int32) < (x11 - x12) then
          fX9_nextToken_126 v0 (x11 - x12) v0 (4 : Int32) h21
        else
          fX9_nextToken_126 v0 (x11 - x12) v0 (2 : Int32) h21
    else
      (gx_fI h10 v0 7 5).bind fun x22 =>
      (gx_pF h10 v0 7 6 (.int (x22 + (x7 - x8)))).bind fun h23 =>
      (gx_pF h23 v0 7 4 (.int (1 : Int32))).bind fun h24 =>
      fX9_nextToken_173 h24
  else
    (gx_fI h10 v0 7 5).bind fun x25 =>
    (gx_pF h10 v0 7 6 (.int x25)).bind fun h26 =>
    (gx_pF h26 v0 7 4 (.int (0 : Int32))).bind fun h27 =>
    fX9_nextToken_173 h27
set_option maxRecDepth 100000 in
set_option maxHeartbeats 4000000 in
theorem gX9_nextToken_173 {E : gx_Env} {d : Nat}  : ∀  (h : gx_H), gx_G E RX9 cX9_nextToken 3 none false (d + 2) 0 0 173 [none, none, none] [] h (fun _ : Unit => none) (fX9_nextToken_173 h) := by
  intro  h
  unfold fX9_nextToken_173
  exact gx_vret dX9_nextToken_173 rfl
set_option maxRecDepth 100000 in
set_option maxHeartbeats 4000000 in
theorem gX9_nextToken_126 {E : gx_Env} {d : Nat}  : ∀ (v0 : Nat) (v2 : Int32) (s0 : Nat) (s1 : Int32) (h : gx_H), gx_G E RX9 cX9_nextToken 3 none false (d + 2) 0 0 126 [some (.ref v0), none, some (.int v2)] [.int s1, .ref s0] h (fun _ : Unit => none) (fX9_nextToken_126 v0 v2 s0 s1 h) := by
  intro v0 v2 s0 s1 h
  unfold fX9_nextToken_126
  refine gx_putI kp_RX9_33 (fun q => by cases q) dX9_nextToken_126 (fun h29 => ?_)
  refine gx_aload_n 0 dX9_nextToken_129 rfl rfl ?_
  refine gx_aload_n 0 dX9_nextToken_130 rfl rfl ?_
  refine gx_iload_n 2 dX9_nextToken_131 rfl rfl ?_
  refine gx_callV (ci := 7) (bc := 0) (bs := 0) (mc := 0) (ms := 0) (em' := (fun x : Int32 => some (.int x))) [.int v2] kc_RX9_147 rfl dX9_nextToken_132 rfl rfl (gx_w8 rfl) (fun x q => (gx_isO_of (by unfold fX9_valueOf at q; exact q)).2) (fun _ _ q => okX9_valueOf d q) (fun x31 h30 => ?_)
  refine gx_putI kp_RX9_42 (fun q => by cases q) dX9_nextToken_135 (fun h32 => ?_)
  refine gx_goto 173 dX9_nextToken_138 (by decide) ?_
  exact gx_sub (gX9_nextToken_173 h32) True.intro
set_option maxRecDepth 100000 in
set_option maxHeartbeats 4000000 in
theorem gX9_nextToken_170 {E : gx_Env} {d : Nat}  : ∀ (s0 : Nat) (s1 : Int32) (h : gx_H), gx_G E RX9 cX9_nextToken 3 none false (d + 2) 0 0 170 [none, none, none] [.int s1, .ref s0] h (fun _ : Unit => none) (fX9_nextToken_170 s0 s1 h) := by
  intro s0 s1 h
  unfold fX9_nextToken_170
  refine gx_putI kp_RX9_33 (fun q => by cases q) dX9_nextToken_170 (fun h28 => ?_)
  exact gx_sub (gX9_nextToken_173 h28) True.intro
set_option maxRecDepth 100000 in
set_option maxHeartbeats 4000000 in
theorem geX9_nextToken {E : gx_Env} {d : Nat} (v0 : Nat) (h : gx_H) : gx_G E RX9 cX9_nextToken 3 none false (d + 2) 0 0 0 [some (.ref v0), none, none] [] h (fun _ : Unit => none) (fX9_nextToken v0 h) := by
  unfold fX9_nextToken
  refine gx_bind fun _ _ => ?_
  refine gx_aload_n 0 dX9_nextToken_0 rfl rfl ?_
  refine gx_aload_n 0 dX9_nextToken_1 rfl rfl ?_
  refine gx_aload_n 0 dX9_nextToken_2 rfl rfl ?_
  refine gx_getI kf_RX9_39 dX9_nextToken_3 (fun x1 => ?_)
  refine gx_bipush (32 : Int32) dX9_nextToken_6 (by decide) ?_
  refine gx_bipush (32 : Int32) dX9_nextToken_8 (by decide) ?_
  refine gx_callV (ci := 7) (bc := 0) (bs := 0) (mc := 0) (ms := 0) (em' := (fun x : Int32 => some (.int x))) [.int x1, .int (32 : Int32), .int (32 : Int32)] kc_RX9_144 rfl dX9_nextToken_10 rfl rfl (gx_w8 rfl) (fun x q => (gx_isO_of (by unfold fX9_runEnd at q; exact q)).2) (fun _ _ q => okX9_runEnd d q) (fun x3 h2 => ?_)
  refine gx_putI kp_RX9_36 (fun q => by cases q) dX9_nextToken_13 (fun h4 => ?_)
  refine gx_aload_n 0 dX9_nextToken_16 rfl rfl ?_
  refine gx_aload_n 0 dX9_nextToken_17 rfl rfl ?_
  refine gx_getI kf_RX9_36 dX9_nextToken_18 (fun x5 => ?_)
  refine gx_bipush (97 : Int32) dX9_nextToken_21 (by decide) ?_
  refine gx_bipush (122 : Int32) dX9_nextToken_23 (by decide) ?_
  refine gx_callV (ci := 7) (bc := 0) (bs := 0) (mc := 0) (ms := 0) (em' := (fun x : Int32 => some (.int x))) [.int x5, .int (97 : Int32), .int (122 : Int32)] kc_RX9_144 rfl dX9_nextToken_25 rfl rfl (gx_w8 rfl) (fun x q => (gx_isO_of (by unfold fX9_runEnd at q; exact q)).2) (fun _ _ q => okX9_runEnd d q) (fun x7 h6 => ?_)
  refine gx_aload_n 0 dX9_nextToken_28 rfl rfl ?_
  refine gx_getI kf_RX9_36 dX9_nextToken_29 (fun x8 => ?_)
  refine gx_isub dX9_nextToken_32 ?_
  refine gx_istore_n 1 [some (.ref v0), some (.int (x7 - x8)), none] dX9_nextToken_33 rfl (by decide) rfl ?_
  refine gx_aload_n 0 dX9_nextToken_34 rfl rfl ?_
  refine gx_aload_n 0 dX9_nextToken_35 rfl rfl ?_
  refine gx_getI kf_RX9_36 dX9_nextToken_36 (fun x9 => ?_)
  refine gx_bipush (48 : Int32) dX9_nextToken_39 (by decide) ?_
  refine gx_bipush (57 : Int32) dX9_nextToken_41 (by decide) ?_
  refine gx_callV (ci := 7) (bc := 0) (bs := 0) (mc := 0) (ms := 0) (em' := (fun x : Int32 => some (.int x))) [.int x9, .int (48 : Int32), .int (57 : Int32)] kc_RX9_144 rfl dX9_nextToken_43 rfl rfl (gx_w8 rfl) (fun x q => (gx_isO_of (by unfold fX9_runEnd at q; exact q)).2) (fun _ _ q => okX9_runEnd d q) (fun x11 h10 => ?_)
  refine gx_aload_n 0 dX9_nextToken_46 rfl rfl ?_
  refine gx_getI kf_RX9_36 dX9_nextToken_47 (fun x12 => ?_)
  refine gx_isub dX9_nextToken_50 ?_
  refine gx_istore_n 2 [some (.ref v0), some (.int (x7 - x8)), some (.int (x11 - x12))] dX9_nextToken_51 rfl (by decide) rfl ?_
  refine gx_aload_n 0 dX9_nextToken_52 rfl rfl ?_
  refine gx_getI kf_RX9_36 dX9_nextToken_53 (fun x13 => ?_)
  refine gx_aload_n 0 dX9_nextToken_56 rfl rfl ?_
  refine gx_getI kf_RX9_9 dX9_nextToken_57 (fun x14 => ?_)
  refine gx_icmp_lt 79 dX9_nextToken_60 (by decide) (fun _ => ?_) (fun _ => ?_)
  · refine gx_iload_n 1 dX9_nextToken_79 rfl rfl ?_
    refine gx_if_le 101 dX9_nextToken_80 (by decide) (fun _ => ?_) (fun _ => ?_)
    · refine gx_iload_n 2 dX9_nextToken_101 rfl rfl ?_
      refine gx_if_le 141 dX9_nextToken_102 (by decide) (fun _ => ?_) (fun _ => ?_)
      · refine gx_aload_n 0 dX9_nextToken_141 rfl rfl ?_
        refine gx_aload_n 0 dX9_nextToken_142 rfl rfl ?_
        refine gx_getI kf_RX9_36 dX9_nextToken_143 (fun x15 => ?_)
        refine gx_iconst (1 : Int32) dX9_nextToken_146 (by decide) ?_
        refine gx_iadd dX9_nextToken_147 ?_
        refine gx_putI kp_RX9_39 (fun q => by cases q) dX9_nextToken_148 (fun h16 => ?_)
        refine gx_aload_n 0 dX9_nextToken_151 rfl rfl ?_
        refine gx_aload_n 0 dX9_nextToken_152 rfl rfl ?_
        refine gx_aload_n 0 dX9_nextToken_153 rfl rfl ?_
        refine gx_getI kf_RX9_36 dX9_nextToken_154 (fun x17 => ?_)
        refine gx_callV (ci := 7) (bc := 0) (bs := 0) (mc := 0) (ms := 0) (em' := (fun x : Int32 => some (.int x))) [.int x17] kc_RX9_137 rfl dX9_nextToken_157 rfl rfl (gx_w8 rfl) (fun x q => (gx_isO_of (by unfold fX9_byteAt at q; exact q)).2) (fun _ _ q => okX9_byteAt (d + 1) q) (fun x19 h18 => ?_)
        refine gx_bipush (59 : Int32) dX9_nextToken_160 (by decide) ?_
        refine gx_icmp_ne 169 dX9_nextToken_162 (by decide) (fun _ => ?_) (fun _ => ?_)
        · refine gx_iconst (4 : Int32) dX9_nextToken_169 (by decide) ?_
          exact gx_sub (gX9_nextToken_170 v0 (4 : Int32) h18) True.intro
        · refine gx_iconst (3 : Int32) dX9_nextToken_165 (by decide) ?_
          refine gx_goto 170 dX9_nextToken_166 (by decide) ?_
          exact gx_sub (gX9_nextToken_170 v0 (3 : Int32) h18) True.intro
      · refine gx_aload_n 0 dX9_nextToken_105 rfl rfl ?_
        refine gx_aload_n 0 dX9_nextToken_106 rfl rfl ?_
        refine gx_getI kf_RX9_36 dX9_nextToken_107 (fun x20 => ?_)
        refine gx_iload_n 2 dX9_nextToken_110 rfl rfl ?_
        refine gx_iadd dX9_nextToken_111 ?_
        refine gx_putI kp_RX9_39 (fun q => by cases q) dX9_nextToken_112 (fun h21 => ?_)
        refine gx_aload_n 0 dX9_nextToken_115 rfl rfl ?_
        refine gx_iload_n 2 dX9_nextToken_116 rfl rfl ?_
        refine gx_iconst (2 : Int32) dX9_nextToken_117 (by decide) ?_
        refine gx_icmp_gt 125 dX9_nextToken_118 (by decide) (fun _ => ?_) (fun _ => ?_)
        · refine gx_iconst (4 : Int32) dX9_nextToken_125 (by decide) ?_
          exact gx_sub (gX9_nextToken_126 v0 (x11 - x12) v0 (4 : Int32) h21) (And.intro rfl (And.intro rfl True.intro))
        · refine gx_iconst (2 : Int32) dX9_nextToken_121 (by decide) ?_
          refine gx_goto 126 dX9_nextToken_122 (by decide) ?_
          exact gx_sub (gX9_nextToken_126 v0 (x11 - x12) v0 (2 : Int32) h21) (And.intro rfl (And.intro rfl True.intro))
    · refine gx_aload_n 0 dX9_nextToken_83 rfl rfl ?_
      refine gx_aload_n 0 dX9_nextToken_84 rfl rfl ?_
      refine gx_getI kf_RX9_36 dX9_nextToken_85 (fun x22 => ?_)
      refine gx_iload_n 1 dX9_nextToken_88 rfl rfl ?_
      refine gx_iadd dX9_nextToken_89 ?_
      refine gx_putI kp_RX9_39 (fun q => by cases q) dX9_nextToken_90 (fun h23 => ?_)
      refine gx_aload_n 0 dX9_nextToken_93 rfl rfl ?_
      refine gx_iconst (1 : Int32) dX9_nextToken_94 (by decide) ?_
      refine gx_putI kp_RX9_33 (fun q => by cases q) dX9_nextToken_95 (fun h24 => ?_)
      refine gx_goto 173 dX9_nextToken_98 (by decide) ?_
      exact gx_sub (gX9_nextToken_173 h24) True.intro
  · refine gx_aload_n 0 dX9_nextToken_63 rfl rfl ?_
    refine gx_aload_n 0 dX9_nextToken_64 rfl rfl ?_
    refine gx_getI kf_RX9_36 dX9_nextToken_65 (fun x25 => ?_)
    refine gx_putI kp_RX9_39 (fun q => by cases q) dX9_nextToken_68 (fun h26 => ?_)
    refine gx_aload_n 0 dX9_nextToken_71 rfl rfl ?_
    refine gx_iconst (0 : Int32) dX9_nextToken_72 (by decide) ?_
    refine gx_putI kp_RX9_33 (fun q => by cases q) dX9_nextToken_73 (fun h27 => ?_)
    refine gx_goto 173 dX9_nextToken_76 (by decide) ?_
    exact gx_sub (gX9_nextToken_173 h27) True.intro
theorem okX9_nextToken {E : gx_Env} (d : Nat) {v0 : Nat} {h : gx_H} {r : Unit} {h1 : gx_H} (q : fX9_nextToken v0 h = some (r, h1)) : gx_M E yX9_nextToken cX9_nextToken 3 none (d + 2) 0 0 [.ref v0] h ((fun _ : Unit => none) r) h1 := gx_meth (y := yX9_nextToken) (cc := cX9_nextToken) (nL := 3) (em := (fun _ : Unit => none)) (ini := false) [.ref v0] (by decide) (by simp [gx_sl]) (fun q => by cases q) (geX9_nextToken v0 h) q
theorem dX9_nextNumber_0 : decode cX9_nextNumber 0 = .ok (.aload_n 0, 1) := by decide +kernel
theorem dX9_nextNumber_1 : decode cX9_nextNumber 1 = .ok (.invokevirtual 45, 3) := by decide +kernel
theorem dX9_nextNumber_4 : decode cX9_nextNumber 4 = .ok (.aload_n 0, 1) := by decide +kernel
theorem dX9_nextNumber_5 : decode cX9_nextNumber 5 = .ok (.iload_n 1, 1) := by decide +kernel
theorem dX9_nextNumber_6 : decode cX9_nextNumber 6 = .ok (.iload_n 2, 1) := by decide +kernel
theorem dX9_nextNumber_7 : decode cX9_nextNumber 7 = .ok (.invokevirtual 117, 3) := by decide +kernel
theorem dX9_nextNumber_10 : decode cX9_nextNumber 10 = .ok (.ireturn, 1) := by decide +kernel
def fX9_nextNumber (v0 : Nat) (v1 : Int32) (v2 : Int32) (h : gx_H) : Option (Int32 × gx_H) :=
  (gx_isO h v0 7).bind fun _ =>
  gx_bd (fX9_nextToken v0 h) fun u2 h1 =>
  gx_bd (fX9_isNumber v0 v1 v2 h1) fun x4 h3 =>
  gx_ret .boolean x4 h3
set_option maxRecDepth 100000 in
set_option maxHeartbeats 4000000 in
theorem geX9_nextNumber {E : gx_Env} {d : Nat} (v0 : Nat) (v1 : Int32) (v2 : Int32) (h : gx_H) : gx_G E RX9 cX9_nextNumber 3 (some .boolean) false (d + 3) 0 0 0 [some (.ref v0), some (.int v1), some (.int v2)] [] h (fun x : Int32 => some (.int x)) (fX9_nextNumber v0 v1 v2 h) := by
  unfold fX9_nextNumber
  refine gx_bind fun _ _ => ?_
  refine gx_aload_n 0 dX9_nextNumber_0 rfl rfl ?_
  refine gx_callV (ci := 7) (bc := 0) (bs := 0) (mc := 0) (ms := 0) (em' := (fun _ : Unit => none)) [] kc_RX9_45 rfl dX9_nextNumber_1 rfl rfl (gx_w8 rfl) (fun x q => (gx_isO_of (by unfold fX9_nextToken at q; exact q)).2) (fun _ _ q => okX9_nextToken d q) (fun u2 h1 => ?_)
  refine gx_aload_n 0 dX9_nextNumber_4 rfl rfl ?_
  refine gx_iload_n 1 dX9_nextNumber_5 rfl rfl ?_
  refine gx_iload_n 2 dX9_nextNumber_6 rfl rfl ?_
  refine gx_callV (ci := 7) (bc := 0) (bs := 0) (mc := 0) (ms := 0) (em' := (fun x : Int32 => some (.int x))) [.int v1, .int v2] kc_RX9_117 rfl dX9_nextNumber_7 rfl rfl (gx_w8 rfl) (fun x q => (gx_isO_of (by unfold fX9_isNumber at q; exact q)).2) (fun _ _ q => okX9_isNumber (d + 1) q) (fun x4 h3 => ?_)
  exact gx_zret dX9_nextNumber_10 rfl
theorem okX9_nextNumber {E : gx_Env} (d : Nat) {v0 : Nat} {v1 : Int32} {v2 : Int32} {h : gx_H} {r : Int32} {h1 : gx_H} (q : fX9_nextNumber v0 v1 v2 h = some (r, h1)) : gx_M E yX9_nextNumber cX9_nextNumber 3 (some .boolean) (d + 3) 0 0 [.ref v0, .int v1, .int v2] h ((fun x : Int32 => some (.int x)) r) h1 := gx_meth (y := yX9_nextNumber) (cc := cX9_nextNumber) (nL := 3) (em := (fun x : Int32 => some (.int x))) (ini := false) [.ref v0, .int v1, .int v2] (by decide) (by simp [gx_sl]) (fun q => by cases q) (geX9_nextNumber v0 v1 v2 h) q
theorem dX9_nextSemicolon_0 : decode cX9_nextSemicolon 0 = .ok (.aload_n 0, 1) := by decide +kernel
theorem dX9_nextSemicolon_1 : decode cX9_nextSemicolon 1 = .ok (.invokevirtual 45, 3) := by decide +kernel
theorem dX9_nextSemicolon_4 : decode cX9_nextSemicolon 4 = .ok (.aload_n 0, 1) := by decide +kernel
theorem dX9_nextSemicolon_5 : decode cX9_nextSemicolon 5 = .ok (.getfield 33, 3) := by decide +kernel
theorem dX9_nextSemicolon_8 : decode cX9_nextSemicolon 8 = .ok (.iconst 3, 1) := by decide +kernel
theorem dX9_nextSemicolon_9 : decode cX9_nextSemicolon 9 = .ok (.if_icmp .ne 7, 3) := by decide +kernel
theorem dX9_nextSemicolon_12 : decode cX9_nextSemicolon 12 = .ok (.iconst 1, 1) := by decide +kernel
theorem dX9_nextSemicolon_13 : decode cX9_nextSemicolon 13 = .ok (.goto 4, 3) := by decide +kernel
theorem dX9_nextSemicolon_16 : decode cX9_nextSemicolon 16 = .ok (.iconst 0, 1) := by decide +kernel
theorem dX9_nextSemicolon_17 : decode cX9_nextSemicolon 17 = .ok (.ireturn, 1) := by decide +kernel
def fX9_nextSemicolon_17 (s0 : Int32) (h : gx_H) : Option (Int32 × gx_H) :=
  gx_ret .boolean s0 h
def fX9_nextSemicolon (v0 : Nat) (h : gx_H) : Option (Int32 × gx_H) :=
  (gx_isO h v0 7).bind fun _ =>
  gx_bd (fX9_nextToken v0 h) fun u2 h1 =>
  (gx_fI h1 v0 7 4).bind fun x3 =>
  if x3 = (3 : Int32) then
    fX9_nextSemicolon_17 (1 : Int32) h1
  else
    fX9_nextSemicolon_17 (0 : Int32) h1
set_option maxRecDepth 100000 in
set_option maxHeartbeats 4000000 in
theorem gX9_nextSemicolon_17 {E : gx_Env} {d : Nat}  : ∀ (s0 : Int32) (h : gx_H), gx_G E RX9 cX9_nextSemicolon 1 (some .boolean) false (d + 3) 0 0 17 [none] [.int s0] h (fun x : Int32 => some (.int x)) (fX9_nextSemicolon_17 s0 h) := by
  intro s0 h
  unfold fX9_nextSemicolon_17
  exact gx_zret dX9_nextSemicolon_17 rfl
set_option maxRecDepth 100000 in
set_option maxHeartbeats 4000000 in
theorem geX9_nextSemicolon {E : gx_Env} {d : Nat} (v0 : Nat) (h : gx_H) : gx_G E RX9 cX9_nextSemicolon 1 (some .boolean) false (d + 3) 0 0 0 [some (.ref v0)] [] h (fun x : Int32 => some (.int x)) (fX9_nextSemicolon v0 h) := by
  unfold fX9_nextSemicolon
  refine gx_bind fun _ _ => ?_
  refine gx_aload_n 0 dX9_nextSemicolon_0 rfl rfl ?_
  refine gx_callV (ci := 7) (bc := 0) (bs := 0) (mc := 0) (ms := 0) (em' := (fun _ : Unit => none)) [] kc_RX9_45 rfl dX9_nextSemicolon_1 rfl rfl (gx_w8 rfl) (fun x q => (gx_isO_of (by unfold fX9_nextToken at q; exact q)).2) (fun _ _ q => okX9_nextToken d q) (fun u2 h1 => ?_)
  refine gx_aload_n 0 dX9_nextSemicolon_4 rfl rfl ?_
  refine gx_getI kf_RX9_33 dX9_nextSemicolon_5 (fun x3 => ?_)
  refine gx_iconst (3 : Int32) dX9_nextSemicolon_8 (by decide) ?_
  refine gx_icmp_ne 16 dX9_nextSemicolon_9 (by decide) (fun _ => ?_) (fun _ => ?_)
  · refine gx_iconst (0 : Int32) dX9_nextSemicolon_16 (by decide) ?_
    exact gx_sub (gX9_nextSemicolon_17 (0 : Int32) h1) True.intro
  · refine gx_iconst (1 : Int32) dX9_nextSemicolon_12 (by decide) ?_
    refine gx_goto 17 dX9_nextSemicolon_13 (by decide) ?_
    exact gx_sub (gX9_nextSemicolon_17 (1 : Int32) h1) True.intro
theorem okX9_nextSemicolon {E : gx_Env} (d : Nat) {v0 : Nat} {h : gx_H} {r : Int32} {h1 : gx_H} (q : fX9_nextSemicolon v0 h = some (r, h1)) : gx_M E yX9_nextSemicolon cX9_nextSemicolon 1 (some .boolean) (d + 3) 0 0 [.ref v0] h ((fun x : Int32 => some (.int x)) r) h1 := gx_meth (y := yX9_nextSemicolon) (cc := cX9_nextSemicolon) (nL := 1) (em := (fun x : Int32 => some (.int x))) (ini := false) [.ref v0] (by decide) (by simp [gx_sl]) (fun q => by cases q) (geX9_nextSemicolon v0 h) q
theorem dJ0_coder_7d493_0 : decode cJ0_coder_7d493 0 = .ok (.getstatic 38, 3) := by decide +kernel
theorem dJ0_coder_7d493_3 : decode cJ0_coder_7d493 3 = .ok (.ifCond .eq 10, 3) := by decide +kernel
theorem dJ0_coder_7d493_6 : decode cJ0_coder_7d493 6 = .ok (.aload_n 0, 1) := by decide +kernel
theorem dJ0_coder_7d493_7 : decode cJ0_coder_7d493 7 = .ok (.getfield 15, 3) := by decide +kernel
theorem dJ0_coder_7d493_10 : decode cJ0_coder_7d493 10 = .ok (.goto 4, 3) := by decide +kernel
theorem dJ0_coder_7d493_13 : decode cJ0_coder_7d493 13 = .ok (.iconst 1, 1) := by decide +kernel
theorem dJ0_coder_7d493_14 : decode cJ0_coder_7d493 14 = .ok (.ireturn, 1) := by decide +kernel
def fJ0_coder_7d493_14 (s0 : Int32) (h : gx_H) : Option (Int32 × gx_H) :=
  gx_ret .byte s0 h
def fJ0_coder_7d493 (v0 : Nat) (h : gx_H) : Option (Int32 × gx_H) :=
  (gx_kis v0).bind fun _ =>
  if (1 : Int32) = 0 then
    fJ0_coder_7d493_14 (1 : Int32) h
  else
    (gx_kc v0).bind fun x1 =>
    fJ0_coder_7d493_14 x1 h
set_option maxRecDepth 100000 in
set_option maxHeartbeats 4000000 in
theorem gJ0_coder_7d493_14 {E : gx_Env} {d : Nat}  : ∀ (s0 : Int32) (h : gx_H), gx_G E RJ0 cJ0_coder_7d493 1 (some .byte) false d 0 0 14 [none] [.int s0] h (fun x : Int32 => some (.int x)) (fJ0_coder_7d493_14 s0 h) := by
  intro s0 h
  unfold fJ0_coder_7d493_14
  exact gx_zret dJ0_coder_7d493_14 rfl
set_option maxRecDepth 100000 in
set_option maxHeartbeats 4000000 in
theorem geJ0_coder_7d493 {E : gx_Env} {d : Nat} (v0 : Nat) (h : gx_H) : gx_G E RJ0 cJ0_coder_7d493 1 (some .byte) false d 0 0 0 [some (.retAddr v0)] [] h (fun x : Int32 => some (.int x)) (fJ0_coder_7d493 v0 h) := by
  unfold fJ0_coder_7d493
  refine gx_bind fun _ _ => ?_
  refine gx_stC kk_RJ0_38 dJ0_coder_7d493_0 ?_
  refine gx_if_eq 13 dJ0_coder_7d493_3 (by decide) (fun _ => ?_) (fun _ => ?_)
  · refine gx_iconst (1 : Int32) dJ0_coder_7d493_13 (by decide) ?_
    exact gx_sub (gJ0_coder_7d493_14 (1 : Int32) h) True.intro
  · refine gx_kload_n 0 dJ0_coder_7d493_6 rfl rfl ?_
    refine gx_kcod kk_RJ0_15 dJ0_coder_7d493_7 (fun x1 => ?_)
    refine gx_goto 14 dJ0_coder_7d493_10 (by decide) ?_
    exact gx_sub (gJ0_coder_7d493_14 x1 h) True.intro
theorem okJ0_coder_7d493 {E : gx_Env} (d : Nat) {v0 : Nat} {h : gx_H} {r : Int32} {h1 : gx_H} (q : fJ0_coder_7d493 v0 h = some (r, h1)) : gx_M E yJ0_coder_7d493 cJ0_coder_7d493 1 (some .byte) d 0 0 [.retAddr v0] h ((fun x : Int32 => some (.int x)) r) h1 := gx_meth (y := yJ0_coder_7d493) (cc := cJ0_coder_7d493) (nL := 1) (em := (fun x : Int32 => some (.int x))) (ini := false) [.retAddr v0] (by decide) (by simp [gx_sl]) (fun q => by cases q) (geJ0_coder_7d493 v0 h) q
theorem dJ0_length_8abf5_0 : decode cJ0_length_8abf5 0 = .ok (.aload_n 0, 1) := by decide +kernel
theorem dJ0_length_8abf5_1 : decode cJ0_length_8abf5 1 = .ok (.getfield 9, 3) := by decide +kernel
theorem dJ0_length_8abf5_4 : decode cJ0_length_8abf5 4 = .ok (.arraylength, 1) := by decide +kernel
theorem dJ0_length_8abf5_5 : decode cJ0_length_8abf5 5 = .ok (.aload_n 0, 1) := by decide +kernel
theorem dJ0_length_8abf5_6 : decode cJ0_length_8abf5 6 = .ok (.invokevirtual 335, 3) := by decide +kernel
theorem dJ0_length_8abf5_9 : decode cJ0_length_8abf5 9 = .ok (.ishr, 1) := by decide +kernel
theorem dJ0_length_8abf5_10 : decode cJ0_length_8abf5 10 = .ok (.ireturn, 1) := by decide +kernel
def fJ0_length_8abf5 (v0 : Nat) (h : gx_H) : Option (Int32 × gx_H) :=
  (gx_kis v0).bind fun _ =>
  (gx_kv v0).bind fun w1 =>
  (gx_kl w1).bind fun x2 =>
  gx_bd (fJ0_coder_7d493 v0 h) fun x4 h3 =>
  some ((x2 >>> (x4 &&& 31)), h3)
set_option maxRecDepth 100000 in
set_option maxHeartbeats 4000000 in
theorem geJ0_length_8abf5 {E : gx_Env} {d : Nat} (v0 : Nat) (h : gx_H) : gx_G E RJ0 cJ0_length_8abf5 1 (some .int) false (d + 1) 0 0 0 [some (.retAddr v0)] [] h (fun x : Int32 => some (.int x)) (fJ0_length_8abf5 v0 h) := by
  unfold fJ0_length_8abf5
  refine gx_bind fun _ _ => ?_
  refine gx_kload_n 0 dJ0_length_8abf5_0 rfl rfl ?_
  refine gx_kval kk_RJ0_9 dJ0_length_8abf5_1 (fun w1 => ?_)
  refine gx_klen dJ0_length_8abf5_4 (fun x2 => ?_)
  refine gx_kload_n 0 dJ0_length_8abf5_5 rfl rfl ?_
  refine gx_callK (bc := 0) (bs := 0) (mc := 0) (ms := 0) (em' := (fun x : Int32 => some (.int x))) [] kc_RJ0_335 rfl dJ0_length_8abf5_6 rfl rfl (gx_w8 rfl) (fun x q => gx_kis_of (by unfold fJ0_coder_7d493 at q; exact q)) (fun _ _ q => okJ0_coder_7d493 d q) (fun x4 h3 => ?_)
  refine gx_ishr dJ0_length_8abf5_9 ?_
  exact gx_iret dJ0_length_8abf5_10 rfl
theorem okJ0_length_8abf5 {E : gx_Env} (d : Nat) {v0 : Nat} {h : gx_H} {r : Int32} {h1 : gx_H} (q : fJ0_length_8abf5 v0 h = some (r, h1)) : gx_M E yJ0_length_8abf5 cJ0_length_8abf5 1 (some .int) (d + 1) 0 0 [.retAddr v0] h ((fun x : Int32 => some (.int x)) r) h1 := gx_meth (y := yJ0_length_8abf5) (cc := cJ0_length_8abf5) (nL := 1) (em := (fun x : Int32 => some (.int x))) (ini := false) [.retAddr v0] (by decide) (by simp [gx_sl]) (fun q => by cases q) (geJ0_length_8abf5 v0 h) q
theorem dJ0_isLatin1_aae02_0 : decode cJ0_isLatin1_aae02 0 = .ok (.getstatic 38, 3) := by decide +kernel
theorem dJ0_isLatin1_aae02_3 : decode cJ0_isLatin1_aae02 3 = .ok (.ifCond .eq 14, 3) := by decide +kernel
theorem dJ0_isLatin1_aae02_6 : decode cJ0_isLatin1_aae02 6 = .ok (.aload_n 0, 1) := by decide +kernel
theorem dJ0_isLatin1_aae02_7 : decode cJ0_isLatin1_aae02 7 = .ok (.getfield 15, 3) := by decide +kernel
theorem dJ0_isLatin1_aae02_10 : decode cJ0_isLatin1_aae02 10 = .ok (.ifCond .ne 7, 3) := by decide +kernel
theorem dJ0_isLatin1_aae02_13 : decode cJ0_isLatin1_aae02 13 = .ok (.iconst 1, 1) := by decide +kernel
theorem dJ0_isLatin1_aae02_14 : decode cJ0_isLatin1_aae02 14 = .ok (.goto 4, 3) := by decide +kernel
theorem dJ0_isLatin1_aae02_17 : decode cJ0_isLatin1_aae02 17 = .ok (.iconst 0, 1) := by decide +kernel
theorem dJ0_isLatin1_aae02_18 : decode cJ0_isLatin1_aae02 18 = .ok (.ireturn, 1) := by decide +kernel
def fJ0_isLatin1_aae02_18 (s0 : Int32) (h : gx_H) : Option (Int32 × gx_H) :=
  gx_ret .boolean s0 h
def fJ0_isLatin1_aae02_17 (h : gx_H) : Option (Int32 × gx_H) :=
  fJ0_isLatin1_aae02_18 (0 : Int32) h
def fJ0_isLatin1_aae02 (v0 : Nat) (h : gx_H) : Option (Int32 × gx_H) :=
  (gx_kis v0).bind fun _ =>
  if (1 : Int32) = 0 then
    fJ0_isLatin1_aae02_17 h
  else
    (gx_kc v0).bind fun x1 =>
    if x1 = 0 then
      fJ0_isLatin1_aae02_18 (1 : Int32) h
    else
      fJ0_isLatin1_aae02_17 h
set_option maxRecDepth 100000 in
set_option maxHeartbeats 4000000 in
theorem gJ0_isLatin1_aae02_18 {E : gx_Env} {d : Nat}  : ∀ (s0 : Int32) (h : gx_H), gx_G E RJ0 cJ0_isLatin1_aae02 1 (some .boolean) false d 0 0 18 [none] [.int s0] h (fun x : Int32 => some (.int x)) (fJ0_isLatin1_aae02_18 s0 h) := by
  intro s0 h
  unfold fJ0_isLatin1_aae02_18
  exact gx_zret dJ0_isLatin1_aae02_18 rfl
set_option maxRecDepth 100000 in
set_option maxHeartbeats 4000000 in
theorem gJ0_isLatin1_aae02_17 {E : gx_Env} {d : Nat}  : ∀  (h : gx_H), gx_G E RJ0 cJ0_isLatin1_aae02 1 (some .boolean) false d 0 0 17 [none] [] h (fun x : Int32 => some (.int x)) (fJ0_isLatin1_aae02_17 h) := by
  intro  h
  unfold fJ0_isLatin1_aae02_17
  refine gx_iconst (0 : Int32) dJ0_isLatin1_aae02_17 (by decide) ?_
  exact gx_sub (gJ0_isLatin1_aae02_18 (0 : Int32) h) True.intro
set_option maxRecDepth 100000 in
set_option maxHeartbeats 4000000 in
theorem geJ0_isLatin1_aae02 {E : gx_Env} {d : Nat} (v0 : Nat) (h : gx_H) : gx_G E RJ0 cJ0_isLatin1_aae02 1 (some .boolean) false d 0 0 0 [some (.retAddr v0)] [] h (fun x : Int32 => some (.int x)) (fJ0_isLatin1_aae02 v0 h) := by
  unfold fJ0_isLatin1_aae02
  refine gx_bind fun _ _ => ?_
  refine gx_stC kk_RJ0_38 dJ0_isLatin1_aae02_0 ?_
  refine gx_if_eq 17 dJ0_isLatin1_aae02_3 (by decide) (fun _ => ?_) (fun _ => ?_)
  · exact gx_sub (gJ0_isLatin1_aae02_17 h) True.intro
  · refine gx_kload_n 0 dJ0_isLatin1_aae02_6 rfl rfl ?_
    refine gx_kcod kk_RJ0_15 dJ0_isLatin1_aae02_7 (fun x1 => ?_)
    refine gx_if_ne 17 dJ0_isLatin1_aae02_10 (by decide) (fun _ => ?_) (fun _ => ?_)
    · exact gx_sub (gJ0_isLatin1_aae02_17 h) True.intro
    · refine gx_iconst (1 : Int32) dJ0_isLatin1_aae02_13 (by decide) ?_
      refine gx_goto 18 dJ0_isLatin1_aae02_14 (by decide) ?_
      exact gx_sub (gJ0_isLatin1_aae02_18 (1 : Int32) h) True.intro
theorem okJ0_isLatin1_aae02 {E : gx_Env} (d : Nat) {v0 : Nat} {h : gx_H} {r : Int32} {h1 : gx_H} (q : fJ0_isLatin1_aae02 v0 h = some (r, h1)) : gx_M E yJ0_isLatin1_aae02 cJ0_isLatin1_aae02 1 (some .boolean) d 0 0 [.retAddr v0] h ((fun x : Int32 => some (.int x)) r) h1 := gx_meth (y := yJ0_isLatin1_aae02) (cc := cJ0_isLatin1_aae02) (nL := 1) (em := (fun x : Int32 => some (.int x))) (ini := false) [.retAddr v0] (by decide) (by simp [gx_sl]) (fun q => by cases q) (geJ0_isLatin1_aae02 v0 h) q
theorem dJ3_checkIndex_8e157_0 : decode cJ3_checkIndex_8e157 0 = .ok (.iload_n 0, 1) := by decide +kernel
theorem dJ3_checkIndex_8e157_1 : decode cJ3_checkIndex_8e157 1 = .ok (.ifCond .lt 8, 3) := by decide +kernel
theorem dJ3_checkIndex_8e157_4 : decode cJ3_checkIndex_8e157 4 = .ok (.iload_n 0, 1) := by decide +kernel
theorem dJ3_checkIndex_8e157_5 : decode cJ3_checkIndex_8e157 5 = .ok (.iload_n 1, 1) := by decide +kernel
theorem dJ3_checkIndex_8e157_6 : decode cJ3_checkIndex_8e157 6 = .ok (.if_icmp .lt 10, 3) := by decide +kernel
theorem dJ3_checkIndex_8e157_9 : decode cJ3_checkIndex_8e157 9 = .ok (.aload_n 2, 1) := by decide +kernel
theorem dJ3_checkIndex_8e157_10 : decode cJ3_checkIndex_8e157 10 = .ok (.iload_n 0, 1) := by decide +kernel
theorem dJ3_checkIndex_8e157_11 : decode cJ3_checkIndex_8e157 11 = .ok (.iload_n 1, 1) := by decide +kernel
theorem dJ3_checkIndex_8e157_16 : decode cJ3_checkIndex_8e157 16 = .ok (.iload_n 0, 1) := by decide +kernel
theorem dJ3_checkIndex_8e157_17 : decode cJ3_checkIndex_8e157 17 = .ok (.ireturn, 1) := by decide +kernel
def fJ3_checkIndex_8e157_9 (v0 : Int32) (v1 : Int32) (v2 : Nat) (h : gx_H) : Option (Int32 × gx_H) :=
  none
def fJ3_checkIndex_8e157 (v0 : Int32) (v1 : Int32) (v2 : Nat) (h : gx_H) : Option (Int32 × gx_H) :=
  if v0 < 0 then
    fJ3_checkIndex_8e157_9 v0 v1 v2 h
  else
    if v0 < v1 then
      some (v0, h)
    else
      fJ3_checkIndex_8e157_9 v0 v1 v2 h
set_option maxRecDepth 100000 in
set_option maxHeartbeats 4000000 in
theorem gJ3_checkIndex_8e157_9 {E : gx_Env} {d : Nat}  : ∀ (v0 : Int32) (v1 : Int32) (v2 : Nat) (h : gx_H), gx_G E RJ3 cJ3_checkIndex_8e157 3 (some .int) false d 0 0 9 [some (.int v0), some (.int v1), some (.retAddr v2)] [] h (fun x : Int32 => some (.int x)) (fJ3_checkIndex_8e157_9 v0 v1 v2 h) := by
  intro v0 v1 v2 h
  unfold fJ3_checkIndex_8e157_9
  refine gx_kload_n 2 dJ3_checkIndex_8e157_9 rfl rfl ?_
  refine gx_iload_n 0 dJ3_checkIndex_8e157_10 rfl rfl ?_
  refine gx_iload_n 1 dJ3_checkIndex_8e157_11 rfl rfl ?_
  exact gx_none
set_option maxRecDepth 100000 in
set_option maxHeartbeats 4000000 in
theorem geJ3_checkIndex_8e157 {E : gx_Env} {d : Nat} (v0 : Int32) (v1 : Int32) (v2 : Nat) (h : gx_H) : gx_G E RJ3 cJ3_checkIndex_8e157 3 (some .int) false d 0 0 0 [some (.int v0), some (.int v1), some (.retAddr v2)] [] h (fun x : Int32 => some (.int x)) (fJ3_checkIndex_8e157 v0 v1 v2 h) := by
  unfold fJ3_checkIndex_8e157
  refine gx_iload_n 0 dJ3_checkIndex_8e157_0 rfl rfl ?_
  refine gx_if_lt 9 dJ3_checkIndex_8e157_1 (by decide) (fun _ => ?_) (fun _ => ?_)
  · exact gx_sub (gJ3_checkIndex_8e157_9 v0 v1 v2 h) (And.intro rfl (And.intro rfl (And.intro rfl True.intro)))
  · refine gx_iload_n 0 dJ3_checkIndex_8e157_4 rfl rfl ?_
    refine gx_iload_n 1 dJ3_checkIndex_8e157_5 rfl rfl ?_
    refine gx_icmp_lt 16 dJ3_checkIndex_8e157_6 (by decide) (fun _ => ?_) (fun _ => ?_)
    · refine gx_iload_n 0 dJ3_checkIndex_8e157_16 rfl rfl ?_
      exact gx_iret dJ3_checkIndex_8e157_17 rfl
    · exact gx_sub (gJ3_checkIndex_8e157_9 v0 v1 v2 h) (And.intro rfl (And.intro rfl (And.intro rfl True.intro)))
theorem okJ3_checkIndex_8e157 {E : gx_Env} (d : Nat) {v0 : Int32} {v1 : Int32} {v2 : Nat} {h : gx_H} {r : Int32} {h1 : gx_H} (q : fJ3_checkIndex_8e157 v0 v1 v2 h = some (r, h1)) : gx_M E yJ3_checkIndex_8e157 cJ3_checkIndex_8e157 3 (some .int) d 0 0 [.int v0, .int v1, .retAddr v2] h ((fun x : Int32 => some (.int x)) r) h1 := gx_meth (y := yJ3_checkIndex_8e157) (cc := cJ3_checkIndex_8e157) (nL := 3) (em := (fun x : Int32 => some (.int x))) (ini := false) [.int v0, .int v1, .retAddr v2] (by decide) (by simp [gx_sl]) (fun q => by cases q) (geJ3_checkIndex_8e157 v0 v1 v2 h) q
theorem dJ0_checkIndex_df160_0 : decode cJ0_checkIndex_df160 0 = .ok (.iload_n 0, 1) := by decide +kernel
theorem dJ0_checkIndex_df160_1 : decode cJ0_checkIndex_df160 1 = .ok (.iload_n 1, 1) := by decide +kernel
theorem dJ0_checkIndex_df160_2 : decode cJ0_checkIndex_df160 2 = .ok (.getstatic 1053, 3) := by decide +kernel
theorem dJ0_checkIndex_df160_5 : decode cJ0_checkIndex_df160 5 = .ok (.invokestatic 1059, 3) := by decide +kernel
theorem dJ0_checkIndex_df160_8 : decode cJ0_checkIndex_df160 8 = .ok (.pop, 1) := by decide +kernel
theorem dJ0_checkIndex_df160_9 : decode cJ0_checkIndex_df160 9 = .ok (.return_, 1) := by decide +kernel
def fJ0_checkIndex_df160 (v0 : Int32) (v1 : Int32) (h : gx_H) : Option (Unit × gx_H) :=
  gx_bd (fJ3_checkIndex_8e157 v0 v1 10 h) fun x2 h1 =>
  some ((), h1)
set_option maxRecDepth 100000 in
set_option maxHeartbeats 4000000 in
theorem geJ0_checkIndex_df160 {E : gx_Env} {d : Nat} (v0 : Int32) (v1 : Int32) (h : gx_H) : gx_G E RJ0 cJ0_checkIndex_df160 2 none false (d + 1) 0 0 0 [some (.int v0), some (.int v1)] [] h (fun _ : Unit => none) (fJ0_checkIndex_df160 v0 v1 h) := by
  unfold fJ0_checkIndex_df160
  refine gx_iload_n 0 dJ0_checkIndex_df160_0 rfl rfl ?_
  refine gx_iload_n 1 dJ0_checkIndex_df160_1 rfl rfl ?_
  refine gx_stF kk_RJ0_1053 dJ0_checkIndex_df160_2 ?_
  refine gx_callS (bc := 0) (bs := 0) (mc := 0) (ms := 0) (em' := (fun x : Int32 => some (.int x))) [.int v0, .int v1, .retAddr 10] kc_RJ0_1059 dJ0_checkIndex_df160_5 rfl rfl (gx_w8 rfl) (fun _ _ q => okJ3_checkIndex_8e157 d q) (fun x2 h1 => ?_)
  refine gx_pop dJ0_checkIndex_df160_8 rfl ?_
  exact gx_vret dJ0_checkIndex_df160_9 rfl
theorem okJ0_checkIndex_df160 {E : gx_Env} (d : Nat) {v0 : Int32} {v1 : Int32} {h : gx_H} {r : Unit} {h1 : gx_H} (q : fJ0_checkIndex_df160 v0 v1 h = some (r, h1)) : gx_M E yJ0_checkIndex_df160 cJ0_checkIndex_df160 2 none (d + 1) 0 0 [.int v0, .int v1] h ((fun _ : Unit => none) r) h1 := gx_meth (y := yJ0_checkIndex_df160) (cc := cJ0_checkIndex_df160) (nL := 2) (em := (fun _ : Unit => none)) (ini := false) [.int v0, .int v1] (by decide) (by simp [gx_sl]) (fun q => by cases q) (geJ0_checkIndex_df160 v0 v1 h) q
theorem dJ1_charAt_3b067_0 : decode cJ1_charAt_3b067 0 = .ok (.iload_n 1, 1) := by decide +kernel
theorem dJ1_charAt_3b067_1 : decode cJ1_charAt_3b067 1 = .ok (.aload_n 0, 1) := by decide +kernel
theorem dJ1_charAt_3b067_2 : decode cJ1_charAt_3b067 2 = .ok (.arraylength, 1) := by decide +kernel
theorem dJ1_charAt_3b067_3 : decode cJ1_charAt_3b067 3 = .ok (.invokestatic 9, 3) := by decide +kernel
theorem dJ1_charAt_3b067_6 : decode cJ1_charAt_3b067 6 = .ok (.aload_n 0, 1) := by decide +kernel
theorem dJ1_charAt_3b067_7 : decode cJ1_charAt_3b067 7 = .ok (.iload_n 1, 1) := by decide +kernel
theorem dJ1_charAt_3b067_8 : decode cJ1_charAt_3b067 8 = .ok (.baload, 1) := by decide +kernel
theorem dJ1_charAt_3b067_9 : decode cJ1_charAt_3b067 9 = .ok (.sipush 255, 3) := by decide +kernel
theorem dJ1_charAt_3b067_12 : decode cJ1_charAt_3b067 12 = .ok (.iand, 1) := by decide +kernel
theorem dJ1_charAt_3b067_13 : decode cJ1_charAt_3b067 13 = .ok (.i2c, 1) := by decide +kernel
theorem dJ1_charAt_3b067_14 : decode cJ1_charAt_3b067 14 = .ok (.ireturn, 1) := by decide +kernel
def fJ1_charAt_3b067 (v0 : Nat) (v1 : Int32) (h : gx_H) : Option (Int32 × gx_H) :=
  (gx_kl v0).bind fun x1 =>
  gx_bd (fJ0_checkIndex_df160 v1 x1 h) fun u3 h2 =>
  (gx_kb v0 v1).bind fun x4 =>
  gx_ret .char ((((x4 &&& (255 : Int32))).toUInt32 % 65536).toInt32) h2
set_option maxRecDepth 100000 in
set_option maxHeartbeats 4000000 in
theorem geJ1_charAt_3b067 {E : gx_Env} {d : Nat} (v0 : Nat) (v1 : Int32) (h : gx_H) : gx_G E RJ1 cJ1_charAt_3b067 2 (some .char) false (d + 2) 0 0 0 [some (.retAddr v0), some (.int v1)] [] h (fun x : Int32 => some (.int x)) (fJ1_charAt_3b067 v0 v1 h) := by
  unfold fJ1_charAt_3b067
  refine gx_iload_n 1 dJ1_charAt_3b067_0 rfl rfl ?_
  refine gx_kload_n 0 dJ1_charAt_3b067_1 rfl rfl ?_
  refine gx_klen dJ1_charAt_3b067_2 (fun x1 => ?_)
  refine gx_callS (bc := 0) (bs := 0) (mc := 0) (ms := 0) (em' := (fun _ : Unit => none)) [.int v1, .int x1] kc_RJ1_9 dJ1_charAt_3b067_3 rfl rfl (gx_w8 rfl) (fun _ _ q => okJ0_checkIndex_df160 d q) (fun u3 h2 => ?_)
  refine gx_kload_n 0 dJ1_charAt_3b067_6 rfl rfl ?_
  refine gx_iload_n 1 dJ1_charAt_3b067_7 rfl rfl ?_
  refine gx_kbyt dJ1_charAt_3b067_8 (fun x4 => ?_)
  refine gx_sipush (255 : Int32) dJ1_charAt_3b067_9 (by decide) ?_
  refine gx_iand dJ1_charAt_3b067_12 ?_
  refine gx_i2c dJ1_charAt_3b067_13 ?_
  exact gx_zret dJ1_charAt_3b067_14 rfl
theorem okJ1_charAt_3b067 {E : gx_Env} (d : Nat) {v0 : Nat} {v1 : Int32} {h : gx_H} {r : Int32} {h1 : gx_H} (q : fJ1_charAt_3b067 v0 v1 h = some (r, h1)) : gx_M E yJ1_charAt_3b067 cJ1_charAt_3b067 2 (some .char) (d + 2) 0 0 [.retAddr v0, .int v1] h ((fun x : Int32 => some (.int x)) r) h1 := gx_meth (y := yJ1_charAt_3b067) (cc := cJ1_charAt_3b067) (nL := 2) (em := (fun x : Int32 => some (.int x))) (ini := false) [.retAddr v0, .int v1] (by decide) (by simp [gx_sl]) (fun q => by cases q) (geJ1_charAt_3b067 v0 v1 h) q
theorem dJ0_charAt_5068e_0 : decode cJ0_charAt_5068e 0 = .ok (.aload_n 0, 1) := by decide +kernel
theorem dJ0_charAt_5068e_1 : decode cJ0_charAt_5068e 1 = .ok (.invokevirtual 492, 3) := by decide +kernel
theorem dJ0_charAt_5068e_4 : decode cJ0_charAt_5068e 4 = .ok (.ifCond .eq 12, 3) := by decide +kernel
theorem dJ0_charAt_5068e_7 : decode cJ0_charAt_5068e 7 = .ok (.aload_n 0, 1) := by decide +kernel
theorem dJ0_charAt_5068e_8 : decode cJ0_charAt_5068e 8 = .ok (.getfield 9, 3) := by decide +kernel
theorem dJ0_charAt_5068e_11 : decode cJ0_charAt_5068e 11 = .ok (.iload_n 1, 1) := by decide +kernel
theorem dJ0_charAt_5068e_12 : decode cJ0_charAt_5068e 12 = .ok (.invokestatic 495, 3) := by decide +kernel
theorem dJ0_charAt_5068e_15 : decode cJ0_charAt_5068e 15 = .ok (.ireturn, 1) := by decide +kernel
theorem dJ0_charAt_5068e_16 : decode cJ0_charAt_5068e 16 = .ok (.aload_n 0, 1) := by decide +kernel
theorem dJ0_charAt_5068e_17 : decode cJ0_charAt_5068e 17 = .ok (.getfield 9, 3) := by decide +kernel
theorem dJ0_charAt_5068e_20 : decode cJ0_charAt_5068e 20 = .ok (.iload_n 1, 1) := by decide +kernel
def fJ0_charAt_5068e (v0 : Nat) (v1 : Int32) (h : gx_H) : Option (Int32 × gx_H) :=
  (gx_kis v0).bind fun _ =>
  gx_bd (fJ0_isLatin1_aae02 v0 h) fun x2 h1 =>
  if x2 = 0 then
    (gx_kv v0).bind fun w3 =>
    none
  else
    (gx_kv v0).bind fun w4 =>
    gx_bd (fJ1_charAt_3b067 w4 v1 h1) fun x6 h5 =>
    gx_ret .char x6 h5
set_option maxRecDepth 100000 in
set_option maxHeartbeats 4000000 in
theorem geJ0_charAt_5068e {E : gx_Env} {d : Nat} (v0 : Nat) (v1 : Int32) (h : gx_H) : gx_G E RJ0 cJ0_charAt_5068e 2 (some .char) false (d + 3) 0 0 0 [some (.retAddr v0), some (.int v1)] [] h (fun x : Int32 => some (.int x)) (fJ0_charAt_5068e v0 v1 h) := by
  unfold fJ0_charAt_5068e
  refine gx_bind fun _ _ => ?_
  refine gx_kload_n 0 dJ0_charAt_5068e_0 rfl rfl ?_
  refine gx_callK (bc := 0) (bs := 0) (mc := 0) (ms := 0) (em' := (fun x : Int32 => some (.int x))) [] kc_RJ0_492 rfl dJ0_charAt_5068e_1 rfl rfl (gx_w8 rfl) (fun x q => gx_kis_of (by unfold fJ0_isLatin1_aae02 at q; exact q)) (fun _ _ q => okJ0_isLatin1_aae02 (d + 2) q) (fun x2 h1 => ?_)
  refine gx_if_eq 16 dJ0_charAt_5068e_4 (by decide) (fun _ => ?_) (fun _ => ?_)
  · refine gx_kload_n 0 dJ0_charAt_5068e_16 rfl rfl ?_
    refine gx_kval kk_RJ0_9 dJ0_charAt_5068e_17 (fun w3 => ?_)
    refine gx_iload_n 1 dJ0_charAt_5068e_20 rfl rfl ?_
    exact gx_none
  · refine gx_kload_n 0 dJ0_charAt_5068e_7 rfl rfl ?_
    refine gx_kval kk_RJ0_9 dJ0_charAt_5068e_8 (fun w4 => ?_)
    refine gx_iload_n 1 dJ0_charAt_5068e_11 rfl rfl ?_
    refine gx_callS (bc := 0) (bs := 0) (mc := 0) (ms := 0) (em' := (fun x : Int32 => some (.int x))) [.retAddr w4, .int v1] kc_RJ0_495 dJ0_charAt_5068e_12 rfl rfl (gx_w8 rfl) (fun _ _ q => okJ1_charAt_3b067 d q) (fun x6 h5 => ?_)
    exact gx_zret dJ0_charAt_5068e_15 rfl
theorem okJ0_charAt_5068e {E : gx_Env} (d : Nat) {v0 : Nat} {v1 : Int32} {h : gx_H} {r : Int32} {h1 : gx_H} (q : fJ0_charAt_5068e v0 v1 h = some (r, h1)) : gx_M E yJ0_charAt_5068e cJ0_charAt_5068e 2 (some .char) (d + 3) 0 0 [.retAddr v0, .int v1] h ((fun x : Int32 => some (.int x)) r) h1 := gx_meth (y := yJ0_charAt_5068e) (cc := cJ0_charAt_5068e) (nL := 2) (em := (fun x : Int32 => some (.int x))) (ini := false) [.retAddr v0, .int v1] (by decide) (by simp [gx_sl]) (fun q => by cases q) (geJ0_charAt_5068e v0 v1 h) q
theorem dX9_isWord_0 : decode cX9_isWord 0 = .ok (.aload_n 0, 1) := by decide +kernel
theorem dX9_isWord_1 : decode cX9_isWord 1 = .ok (.getfield 33, 3) := by decide +kernel
theorem dX9_isWord_4 : decode cX9_isWord 4 = .ok (.iconst 1, 1) := by decide +kernel
theorem dX9_isWord_5 : decode cX9_isWord 5 = .ok (.if_icmp .ne 19, 3) := by decide +kernel
theorem dX9_isWord_8 : decode cX9_isWord 8 = .ok (.aload_n 0, 1) := by decide +kernel
theorem dX9_isWord_9 : decode cX9_isWord 9 = .ok (.getfield 39, 3) := by decide +kernel
theorem dX9_isWord_12 : decode cX9_isWord 12 = .ok (.aload_n 0, 1) := by decide +kernel
theorem dX9_isWord_13 : decode cX9_isWord 13 = .ok (.getfield 36, 3) := by decide +kernel
theorem dX9_isWord_16 : decode cX9_isWord 16 = .ok (.isub, 1) := by decide +kernel
theorem dX9_isWord_17 : decode cX9_isWord 17 = .ok (.aload_n 1, 1) := by decide +kernel
theorem dX9_isWord_18 : decode cX9_isWord 18 = .ok (.invokevirtual 132, 3) := by decide +kernel
theorem dX9_isWord_21 : decode cX9_isWord 21 = .ok (.if_icmp .eq 5, 3) := by decide +kernel
theorem dX9_isWord_24 : decode cX9_isWord 24 = .ok (.iconst 0, 1) := by decide +kernel
theorem dX9_isWord_25 : decode cX9_isWord 25 = .ok (.ireturn, 1) := by decide +kernel
theorem dX9_isWord_26 : decode cX9_isWord 26 = .ok (.iconst 0, 1) := by decide +kernel
theorem dX9_isWord_27 : decode cX9_isWord 27 = .ok (.istore_n 2, 1) := by decide +kernel
theorem dX9_isWord_28 : decode cX9_isWord 28 = .ok (.iload_n 2, 1) := by decide +kernel
theorem dX9_isWord_29 : decode cX9_isWord 29 = .ok (.aload_n 1, 1) := by decide +kernel
theorem dX9_isWord_30 : decode cX9_isWord 30 = .ok (.invokevirtual 132, 3) := by decide +kernel
theorem dX9_isWord_33 : decode cX9_isWord 33 = .ok (.if_icmp .ge 29, 3) := by decide +kernel
theorem dX9_isWord_36 : decode cX9_isWord 36 = .ok (.aload_n 0, 1) := by decide +kernel
theorem dX9_isWord_37 : decode cX9_isWord 37 = .ok (.aload_n 0, 1) := by decide +kernel
theorem dX9_isWord_38 : decode cX9_isWord 38 = .ok (.getfield 36, 3) := by decide +kernel
theorem dX9_isWord_41 : decode cX9_isWord 41 = .ok (.iload_n 2, 1) := by decide +kernel
theorem dX9_isWord_42 : decode cX9_isWord 42 = .ok (.iadd, 1) := by decide +kernel
theorem dX9_isWord_43 : decode cX9_isWord 43 = .ok (.invokevirtual 137, 3) := by decide +kernel
theorem dX9_isWord_46 : decode cX9_isWord 46 = .ok (.aload_n 1, 1) := by decide +kernel
theorem dX9_isWord_47 : decode cX9_isWord 47 = .ok (.iload_n 2, 1) := by decide +kernel
theorem dX9_isWord_48 : decode cX9_isWord 48 = .ok (.invokevirtual 140, 3) := by decide +kernel
theorem dX9_isWord_51 : decode cX9_isWord 51 = .ok (.if_icmp .eq 5, 3) := by decide +kernel
theorem dX9_isWord_54 : decode cX9_isWord 54 = .ok (.iconst 0, 1) := by decide +kernel
theorem dX9_isWord_55 : decode cX9_isWord 55 = .ok (.ireturn, 1) := by decide +kernel
theorem dX9_isWord_56 : decode cX9_isWord 56 = .ok (.iinc 2 1, 3) := by decide +kernel
theorem dX9_isWord_59 : decode cX9_isWord 59 = .ok (.goto (-31), 3) := by decide +kernel
theorem dX9_isWord_62 : decode cX9_isWord 62 = .ok (.iconst 1, 1) := by decide +kernel
theorem dX9_isWord_63 : decode cX9_isWord 63 = .ok (.ireturn, 1) := by decide +kernel
def fX9_isWord_24 (h : gx_H) : Option (Int32 × gx_H) :=
  gx_ret .boolean (0 : Int32) h
def bX9_isWord_28 (k28 : Nat → Nat → Int32 → gx_H → Option (Int32 × gx_H)) (v0 : Nat) (v1 : Nat) (v2 : Int32) (h : gx_H) : Option (Int32 × gx_H) :=
  gx_bd (fJ0_length_8abf5 v1 h) fun x7 h6 =>
  if x7 ≤ v2 then
    gx_ret .boolean (1 : Int32) h6
  else
    (gx_fI h6 v0 7 5).bind fun x8 =>
    gx_bd (fX9_byteAt v0 (x8 + v2) h6) fun x10 h9 =>
    gx_bd (fJ0_charAt_5068e v1 v2 h9) fun x12 h11 =>
    if x10 = x12 then
      k28 v0 v1 (v2 + (1 : Int32)) h11
    else
      gx_ret .boolean (0 : Int32) h11
def fX9_isWord_28 : Nat → Nat → Nat → Int32 → gx_H → Option (Int32 × gx_H)
  | 0 => fun _ _ _ _ => none
  | n + 1 => bX9_isWord_28 (fX9_isWord_28 n)
def fX9_isWord (v0 : Nat) (v1 : Nat) (h : gx_H) : Option (Int32 × gx_H) :=
  (gx_isO h v0 7).bind fun _ =>
  (gx_fI h v0 7 4).bind fun x1 =>
  if x1 = (1 : Int32) then
    (gx_fI h v0 7 6).bind fun x2 =>
    (gx_fI h v0 7 5).bind fun x3 =>
    gx_bd (fJ0_length_8abf5 v1 h) fun x5 h4 =>
    if (x2 - x3) = x5 then
      fX9_isWord_28 gx_N v0 v1 (0 : Int32) h4
    else
      fX9_isWord_24 h4
  else
    fX9_isWord_24 h
set_option maxRecDepth 100000 in
set_option maxHeartbeats 4000000 in
theorem gX9_isWord_24 {E : gx_Env} {d : Nat}  : ∀  (h : gx_H), gx_G E RX9 cX9_isWord 3 (some .boolean) false (d + 4) 0 0 24 [none, none, none] [] h (fun x : Int32 => some (.int x)) (fX9_isWord_24 h) := by
  intro  h
  unfold fX9_isWord_24
  refine gx_iconst (0 : Int32) dX9_isWord_24 (by decide) ?_
  exact gx_zret dX9_isWord_25 rfl
set_option maxRecDepth 100000 in
set_option maxHeartbeats 4000000 in
theorem gbX9_isWord_28 {E : gx_Env} {d : Nat}  (k28 : Nat → Nat → Int32 → gx_H → Option (Int32 × gx_H)) (hk28 : ∀ (v0 : Nat) (v1 : Nat) (v2 : Int32) (h : gx_H), gx_G E RX9 cX9_isWord 3 (some .boolean) false (d + 4) 0 0 28 [some (.ref v0), some (.retAddr v1), some (.int v2)] [] h (fun x : Int32 => some (.int x)) (k28 v0 v1 v2 h))  : ∀ (v0 : Nat) (v1 : Nat) (v2 : Int32) (h : gx_H), gx_G E RX9 cX9_isWord 3 (some .boolean) false (d + 4) 0 0 28 [some (.ref v0), some (.retAddr v1), some (.int v2)] [] h (fun x : Int32 => some (.int x)) (bX9_isWord_28 k28 v0 v1 v2 h) := by
  intro v0 v1 v2 h
  unfold bX9_isWord_28
  refine gx_iload_n 2 dX9_isWord_28 rfl rfl ?_
  refine gx_kload_n 1 dX9_isWord_29 rfl rfl ?_
  refine gx_callK (bc := 0) (bs := 0) (mc := 0) (ms := 0) (em' := (fun x : Int32 => some (.int x))) [] kc_RX9_132 rfl dX9_isWord_30 rfl rfl (gx_w8 rfl) (fun x q => gx_kis_of (by unfold fJ0_length_8abf5 at q; exact q)) (fun _ _ q => okJ0_length_8abf5 (d + 2) q) (fun x7 h6 => ?_)
  refine gx_icmp_ge 62 dX9_isWord_33 (by decide) (fun _ => ?_) (fun _ => ?_)
  · refine gx_iconst (1 : Int32) dX9_isWord_62 (by decide) ?_
    exact gx_zret dX9_isWord_63 rfl
  · refine gx_aload_n 0 dX9_isWord_36 rfl rfl ?_
    refine gx_aload_n 0 dX9_isWord_37 rfl rfl ?_
    refine gx_getI kf_RX9_36 dX9_isWord_38 (fun x8 => ?_)
    refine gx_iload_n 2 dX9_isWord_41 rfl rfl ?_
    refine gx_iadd dX9_isWord_42 ?_
    refine gx_callV (ci := 7) (bc := 0) (bs := 0) (mc := 0) (ms := 0) (em' := (fun x : Int32 => some (.int x))) [.int (x8 + v2)] kc_RX9_137 rfl dX9_isWord_43 rfl rfl (gx_w8 rfl) (fun x q => (gx_isO_of (by unfold fX9_byteAt at q; exact q)).2) (fun _ _ q => okX9_byteAt (d + 3) q) (fun x10 h9 => ?_)
    refine gx_kload_n 1 dX9_isWord_46 rfl rfl ?_
    refine gx_iload_n 2 dX9_isWord_47 rfl rfl ?_
    refine gx_callK (bc := 0) (bs := 0) (mc := 0) (ms := 0) (em' := (fun x : Int32 => some (.int x))) [.int v2] kc_RX9_140 rfl dX9_isWord_48 rfl rfl (gx_w8 rfl) (fun x q => gx_kis_of (by unfold fJ0_charAt_5068e at q; exact q)) (fun _ _ q => okJ0_charAt_5068e d q) (fun x12 h11 => ?_)
    refine gx_icmp_eq 56 dX9_isWord_51 (by decide) (fun _ => ?_) (fun _ => ?_)
    · refine gx_iinc (1 : Int32) [some (.ref v0), some (.retAddr v1), some (.int (v2 + (1 : Int32)))] dX9_isWord_56 rfl (by decide) (by decide) rfl ?_
      refine gx_goto 28 dX9_isWord_59 (by decide) ?_
      exact gx_sub (hk28 v0 v1 (v2 + (1 : Int32)) h11) (And.intro rfl (And.intro rfl (And.intro rfl True.intro)))
    · refine gx_iconst (0 : Int32) dX9_isWord_54 (by decide) ?_
      exact gx_zret dX9_isWord_55 rfl
set_option maxRecDepth 100000 in
set_option maxHeartbeats 4000000 in
theorem gX9_isWord_28 {E : gx_Env} {d : Nat}  : ∀ (n : Nat) (v0 : Nat) (v1 : Nat) (v2 : Int32) (h : gx_H), gx_G E RX9 cX9_isWord 3 (some .boolean) false (d + 4) 0 0 28 [some (.ref v0), some (.retAddr v1), some (.int v2)] [] h (fun x : Int32 => some (.int x)) (fX9_isWord_28 n v0 v1 v2 h) := by
  intro n
  induction n with
  | zero => intro v0 v1 v2 h; exact gx_none
  | succ n ih => exact gbX9_isWord_28  (fX9_isWord_28  n) ih
set_option maxRecDepth 100000 in
set_option maxHeartbeats 4000000 in
theorem geX9_isWord {E : gx_Env} {d : Nat} (v0 : Nat) (v1 : Nat) (h : gx_H) : gx_G E RX9 cX9_isWord 3 (some .boolean) false (d + 4) 0 0 0 [some (.ref v0), some (.retAddr v1), none] [] h (fun x : Int32 => some (.int x)) (fX9_isWord v0 v1 h) := by
  unfold fX9_isWord
  refine gx_bind fun _ _ => ?_
  refine gx_aload_n 0 dX9_isWord_0 rfl rfl ?_
  refine gx_getI kf_RX9_33 dX9_isWord_1 (fun x1 => ?_)
  refine gx_iconst (1 : Int32) dX9_isWord_4 (by decide) ?_
  refine gx_icmp_ne 24 dX9_isWord_5 (by decide) (fun _ => ?_) (fun _ => ?_)
  · exact gx_sub (gX9_isWord_24 h) True.intro
  · refine gx_aload_n 0 dX9_isWord_8 rfl rfl ?_
    refine gx_getI kf_RX9_39 dX9_isWord_9 (fun x2 => ?_)
    refine gx_aload_n 0 dX9_isWord_12 rfl rfl ?_
    refine gx_getI kf_RX9_36 dX9_isWord_13 (fun x3 => ?_)
    refine gx_isub dX9_isWord_16 ?_
    refine gx_kload_n 1 dX9_isWord_17 rfl rfl ?_
    refine gx_callK (bc := 0) (bs := 0) (mc := 0) (ms := 0) (em' := (fun x : Int32 => some (.int x))) [] kc_RX9_132 rfl dX9_isWord_18 rfl rfl (gx_w8 rfl) (fun x q => gx_kis_of (by unfold fJ0_length_8abf5 at q; exact q)) (fun _ _ q => okJ0_length_8abf5 (d + 2) q) (fun x5 h4 => ?_)
    refine gx_icmp_eq 26 dX9_isWord_21 (by decide) (fun _ => ?_) (fun _ => ?_)
    · refine gx_iconst (0 : Int32) dX9_isWord_26 (by decide) ?_
      refine gx_istore_n 2 [some (.ref v0), some (.retAddr v1), some (.int (0 : Int32))] dX9_isWord_27 rfl (by decide) rfl ?_
      exact gx_sub (gX9_isWord_28 gx_N v0 v1 (0 : Int32) h4) (And.intro rfl (And.intro rfl (And.intro rfl True.intro)))
    · exact gx_sub (gX9_isWord_24 h4) True.intro
theorem okX9_isWord {E : gx_Env} (d : Nat) {v0 : Nat} {v1 : Nat} {h : gx_H} {r : Int32} {h1 : gx_H} (q : fX9_isWord v0 v1 h = some (r, h1)) : gx_M E yX9_isWord cX9_isWord 3 (some .boolean) (d + 4) 0 0 [.ref v0, .retAddr v1] h ((fun x : Int32 => some (.int x)) r) h1 := gx_meth (y := yX9_isWord) (cc := cX9_isWord) (nL := 3) (em := (fun x : Int32 => some (.int x))) (ini := false) [.ref v0, .retAddr v1] (by decide) (by simp [gx_sl]) (fun q => by cases q) (geX9_isWord v0 v1 h) q
theorem dX9_boardItem_0 : decode cX9_boardItem 0 = .ok (.aload_n 0, 1) := by decide +kernel
theorem dX9_boardItem_1 : decode cX9_boardItem 1 = .ok (.ldc 55, 2) := by decide +kernel
theorem dX9_boardItem_3 : decode cX9_boardItem 3 = .ok (.invokevirtual 57, 3) := by decide +kernel
theorem dX9_boardItem_6 : decode cX9_boardItem 6 = .ok (.ifCond .eq 14, 3) := by decide +kernel
theorem dX9_boardItem_9 : decode cX9_boardItem 9 = .ok (.aload_n 0, 1) := by decide +kernel
theorem dX9_boardItem_10 : decode cX9_boardItem 10 = .ok (.bipush 10, 2) := by decide +kernel
theorem dX9_boardItem_12 : decode cX9_boardItem 12 = .ok (.bipush 40, 2) := by decide +kernel
theorem dX9_boardItem_14 : decode cX9_boardItem 14 = .ok (.invokevirtual 61, 3) := by decide +kernel
theorem dX9_boardItem_17 : decode cX9_boardItem 17 = .ok (.ifCond .ne 5, 3) := by decide +kernel
theorem dX9_boardItem_20 : decode cX9_boardItem 20 = .ok (.iconst 0, 1) := by decide +kernel
theorem dX9_boardItem_21 : decode cX9_boardItem 21 = .ok (.ireturn, 1) := by decide +kernel
theorem dX9_boardItem_22 : decode cX9_boardItem 22 = .ok (.aload_n 0, 1) := by decide +kernel
theorem dX9_boardItem_23 : decode cX9_boardItem 23 = .ok (.getfield 42, 3) := by decide +kernel
theorem dX9_boardItem_26 : decode cX9_boardItem 26 = .ok (.istore_n 1, 1) := by decide +kernel
theorem dX9_boardItem_27 : decode cX9_boardItem 27 = .ok (.aload_n 0, 1) := by decide +kernel
theorem dX9_boardItem_28 : decode cX9_boardItem 28 = .ok (.iconst 2, 1) := by decide +kernel
theorem dX9_boardItem_29 : decode cX9_boardItem 29 = .ok (.bipush 6, 2) := by decide +kernel
theorem dX9_boardItem_31 : decode cX9_boardItem 31 = .ok (.invokevirtual 61, 3) := by decide +kernel
theorem dX9_boardItem_34 : decode cX9_boardItem 34 = .ok (.ifCond .ne 5, 3) := by decide +kernel
theorem dX9_boardItem_37 : decode cX9_boardItem 37 = .ok (.iconst 0, 1) := by decide +kernel
theorem dX9_boardItem_38 : decode cX9_boardItem 38 = .ok (.ireturn, 1) := by decide +kernel
theorem dX9_boardItem_39 : decode cX9_boardItem 39 = .ok (.aload_n 0, 1) := by decide +kernel
theorem dX9_boardItem_40 : decode cX9_boardItem 40 = .ok (.getfield 18, 3) := by decide +kernel
theorem dX9_boardItem_43 : decode cX9_boardItem 43 = .ok (.iload_n 1, 1) := by decide +kernel
theorem dX9_boardItem_44 : decode cX9_boardItem 44 = .ok (.aload_n 0, 1) := by decide +kernel
theorem dX9_boardItem_45 : decode cX9_boardItem 45 = .ok (.getfield 42, 3) := by decide +kernel
theorem dX9_boardItem_48 : decode cX9_boardItem 48 = .ok (.invokevirtual 65, 3) := by decide +kernel
theorem dX9_boardItem_51 : decode cX9_boardItem 51 = .ok (.aload_n 0, 1) := by decide +kernel
theorem dX9_boardItem_52 : decode cX9_boardItem 52 = .ok (.invokevirtual 69, 3) := by decide +kernel
theorem dX9_boardItem_55 : decode cX9_boardItem 55 = .ok (.ireturn, 1) := by decide +kernel
def fX9_boardItem_20 (h : gx_H) : Option (Int32 × gx_H) :=
  gx_ret .boolean (0 : Int32) h
def fX9_boardItem (v0 : Nat) (h : gx_H) : Option (Int32 × gx_H) :=
  (gx_isO h v0 7).bind fun _ =>
  gx_bd (fX9_isWord v0 0 h) fun x2 h1 =>
  if x2 = 0 then
    fX9_boardItem_20 h1
  else
    gx_bd (fX9_nextNumber v0 (10 : Int32) (40 : Int32) h1) fun x4 h3 =>
    if x4 = 0 then
      fX9_boardItem_20 h3
    else
      (gx_fI h3 v0 7 7).bind fun x5 =>
      gx_bd (fX9_nextNumber v0 (2 : Int32) (6 : Int32) h3) fun x7 h6 =>
      if x7 = 0 then
        gx_ret .boolean (0 : Int32) h6
      else
        (gx_fR h6 v0 7 1).bind fun a8 =>
        (gx_fI h6 v0 7 7).bind fun x9 =>
        gx_bd (fX0_start a8 x5 x9 h6) fun u11 h10 =>
        gx_bd (fX9_nextSemicolon v0 h10) fun x13 h12 =>
        gx_ret .boolean x13 h12
set_option maxRecDepth 100000 in
set_option maxHeartbeats 4000000 in
theorem gX9_boardItem_20 {E : gx_Env} {d : Nat}  : ∀  (h : gx_H), gx_G E RX9 cX9_boardItem 2 (some .boolean) false (d + 5) 0 0 20 [none, none] [] h (fun x : Int32 => some (.int x)) (fX9_boardItem_20 h) := by
  intro  h
  unfold fX9_boardItem_20
  refine gx_iconst (0 : Int32) dX9_boardItem_20 (by decide) ?_
  exact gx_zret dX9_boardItem_21 rfl
set_option maxRecDepth 100000 in
set_option maxHeartbeats 4000000 in
theorem geX9_boardItem {E : gx_Env} {d : Nat} (v0 : Nat) (h : gx_H) : gx_G E RX9 cX9_boardItem 2 (some .boolean) false (d + 5) 0 0 0 [some (.ref v0), none] [] h (fun x : Int32 => some (.int x)) (fX9_boardItem v0 h) := by
  unfold fX9_boardItem
  refine gx_bind fun _ _ => ?_
  refine gx_aload_n 0 dX9_boardItem_0 rfl rfl ?_
  refine gx_ldcS (i := 0) (by decide) rfl rfl dX9_boardItem_1 ?_
  refine gx_callV (ci := 7) (bc := 0) (bs := 0) (mc := 0) (ms := 0) (em' := (fun x : Int32 => some (.int x))) [.retAddr 0] kc_RX9_57 rfl dX9_boardItem_3 rfl rfl (gx_w8 rfl) (fun x q => (gx_isO_of (by unfold fX9_isWord at q; exact q)).2) (fun _ _ q => okX9_isWord d q) (fun x2 h1 => ?_)
  refine gx_if_eq 20 dX9_boardItem_6 (by decide) (fun _ => ?_) (fun _ => ?_)
  · exact gx_sub (gX9_boardItem_20 h1) True.intro
  · refine gx_aload_n 0 dX9_boardItem_9 rfl rfl ?_
    refine gx_bipush (10 : Int32) dX9_boardItem_10 (by decide) ?_
    refine gx_bipush (40 : Int32) dX9_boardItem_12 (by decide) ?_
    refine gx_callV (ci := 7) (bc := 0) (bs := 0) (mc := 0) (ms := 0) (em' := (fun x : Int32 => some (.int x))) [.int (10 : Int32), .int (40 : Int32)] kc_RX9_61 rfl dX9_boardItem_14 rfl rfl (gx_w8 rfl) (fun x q => (gx_isO_of (by unfold fX9_nextNumber at q; exact q)).2) (fun _ _ q => okX9_nextNumber (d + 1) q) (fun x4 h3 => ?_)
    refine gx_if_ne 22 dX9_boardItem_17 (by decide) (fun _ => ?_) (fun _ => ?_)
    · refine gx_aload_n 0 dX9_boardItem_22 rfl rfl ?_
      refine gx_getI kf_RX9_42 dX9_boardItem_23 (fun x5 => ?_)
      refine gx_istore_n 1 [some (.ref v0), some (.int x5)] dX9_boardItem_26 rfl (by decide) rfl ?_
      refine gx_aload_n 0 dX9_boardItem_27 rfl rfl ?_
      refine gx_iconst (2 : Int32) dX9_boardItem_28 (by decide) ?_
      refine gx_bipush (6 : Int32) dX9_boardItem_29 (by decide) ?_
      refine gx_callV (ci := 7) (bc := 0) (bs := 0) (mc := 0) (ms := 0) (em' := (fun x : Int32 => some (.int x))) [.int (2 : Int32), .int (6 : Int32)] kc_RX9_61 rfl dX9_boardItem_31 rfl rfl (gx_w8 rfl) (fun x q => (gx_isO_of (by unfold fX9_nextNumber at q; exact q)).2) (fun _ _ q => okX9_nextNumber (d + 1) q) (fun x7 h6 => ?_)
      refine gx_if_ne 39 dX9_boardItem_34 (by decide) (fun _ => ?_) (fun _ => ?_)
      · refine gx_aload_n 0 dX9_boardItem_39 rfl rfl ?_
        refine gx_getR kf_RX9_18 dX9_boardItem_40 (fun a8 => ?_)
        refine gx_iload_n 1 dX9_boardItem_43 rfl rfl ?_
        refine gx_aload_n 0 dX9_boardItem_44 rfl rfl ?_
        refine gx_getI kf_RX9_42 dX9_boardItem_45 (fun x9 => ?_)
        refine gx_callV (ci := 0) (bc := 0) (bs := 0) (mc := 0) (ms := 0) (em' := (fun _ : Unit => none)) [.int x5, .int x9] kc_RX9_65 rfl dX9_boardItem_48 rfl rfl (gx_w8 rfl) (fun x q => (gx_isO_of (by unfold fX0_start at q; exact q)).2) (fun _ _ q => okX0_start (d + 4) q) (fun u11 h10 => ?_)
        refine gx_aload_n 0 dX9_boardItem_51 rfl rfl ?_
        refine gx_callV (ci := 7) (bc := 0) (bs := 0) (mc := 0) (ms := 0) (em' := (fun x : Int32 => some (.int x))) [] kc_RX9_69 rfl dX9_boardItem_52 rfl rfl (gx_w8 rfl) (fun x q => (gx_isO_of (by unfold fX9_nextSemicolon at q; exact q)).2) (fun _ _ q => okX9_nextSemicolon (d + 1) q) (fun x13 h12 => ?_)
        exact gx_zret dX9_boardItem_55 rfl
      · refine gx_iconst (0 : Int32) dX9_boardItem_37 (by decide) ?_
        exact gx_zret dX9_boardItem_38 rfl
    · exact gx_sub (gX9_boardItem_20 h3) True.intro
theorem okX9_boardItem {E : gx_Env} (d : Nat) {v0 : Nat} {h : gx_H} {r : Int32} {h1 : gx_H} (q : fX9_boardItem v0 h = some (r, h1)) : gx_M E yX9_boardItem cX9_boardItem 2 (some .boolean) (d + 5) 0 0 [.ref v0] h ((fun x : Int32 => some (.int x)) r) h1 := gx_meth (y := yX9_boardItem) (cc := cX9_boardItem) (nL := 2) (em := (fun x : Int32 => some (.int x))) (ini := false) [.ref v0] (by decide) (by simp [gx_sl]) (fun q => by cases q) (geX9_boardItem v0 h) q
theorem dX9_linkItem_0 : decode cX9_linkItem 0 = .ok (.aload_n 0, 1) := by decide +kernel
theorem dX9_linkItem_1 : decode cX9_linkItem 1 = .ok (.getfield 18, 3) := by decide +kernel
theorem dX9_linkItem_4 : decode cX9_linkItem 4 = .ok (.getfield 92, 3) := by decide +kernel
theorem dX9_linkItem_7 : decode cX9_linkItem 7 = .ok (.bipush 6, 2) := by decide +kernel
theorem dX9_linkItem_9 : decode cX9_linkItem 9 = .ok (.if_icmp .ge 12, 3) := by decide +kernel
theorem dX9_linkItem_12 : decode cX9_linkItem 12 = .ok (.aload_n 0, 1) := by decide +kernel
theorem dX9_linkItem_13 : decode cX9_linkItem 13 = .ok (.iconst 0, 1) := by decide +kernel
theorem dX9_linkItem_14 : decode cX9_linkItem 14 = .ok (.iconst 5, 1) := by decide +kernel
theorem dX9_linkItem_15 : decode cX9_linkItem 15 = .ok (.invokevirtual 61, 3) := by decide +kernel
theorem dX9_linkItem_18 : decode cX9_linkItem 18 = .ok (.ifCond .ne 5, 3) := by decide +kernel
theorem dX9_linkItem_21 : decode cX9_linkItem 21 = .ok (.iconst 0, 1) := by decide +kernel
theorem dX9_linkItem_22 : decode cX9_linkItem 22 = .ok (.ireturn, 1) := by decide +kernel
theorem dX9_linkItem_23 : decode cX9_linkItem 23 = .ok (.aload_n 0, 1) := by decide +kernel
theorem dX9_linkItem_24 : decode cX9_linkItem 24 = .ok (.getfield 42, 3) := by decide +kernel
theorem dX9_linkItem_27 : decode cX9_linkItem 27 = .ok (.istore_n 1, 1) := by decide +kernel
theorem dX9_linkItem_28 : decode cX9_linkItem 28 = .ok (.aload_n 0, 1) := by decide +kernel
theorem dX9_linkItem_29 : decode cX9_linkItem 29 = .ok (.iconst 1, 1) := by decide +kernel
theorem dX9_linkItem_30 : decode cX9_linkItem 30 = .ok (.aload_n 0, 1) := by decide +kernel
theorem dX9_linkItem_31 : decode cX9_linkItem 31 = .ok (.getfield 18, 3) := by decide +kernel
theorem dX9_linkItem_34 : decode cX9_linkItem 34 = .ok (.getfield 95, 3) := by decide +kernel
theorem dX9_linkItem_37 : decode cX9_linkItem 37 = .ok (.iconst 1, 1) := by decide +kernel
theorem dX9_linkItem_38 : decode cX9_linkItem 38 = .ok (.isub, 1) := by decide +kernel
theorem dX9_linkItem_39 : decode cX9_linkItem 39 = .ok (.invokevirtual 61, 3) := by decide +kernel
theorem dX9_linkItem_42 : decode cX9_linkItem 42 = .ok (.ifCond .eq 18, 3) := by decide +kernel
theorem dX9_linkItem_45 : decode cX9_linkItem 45 = .ok (.aload_n 0, 1) := by decide +kernel
theorem dX9_linkItem_46 : decode cX9_linkItem 46 = .ok (.getfield 18, 3) := by decide +kernel
theorem dX9_linkItem_49 : decode cX9_linkItem 49 = .ok (.aload_n 0, 1) := by decide +kernel
theorem dX9_linkItem_50 : decode cX9_linkItem 50 = .ok (.getfield 42, 3) := by decide +kernel
theorem dX9_linkItem_53 : decode cX9_linkItem 53 = .ok (.invokevirtual 96, 3) := by decide +kernel
theorem dX9_linkItem_56 : decode cX9_linkItem 56 = .ok (.iconst (-1), 1) := by decide +kernel
theorem dX9_linkItem_57 : decode cX9_linkItem 57 = .ok (.if_icmp .eq 5, 3) := by decide +kernel
theorem dX9_linkItem_60 : decode cX9_linkItem 60 = .ok (.iconst 0, 1) := by decide +kernel
theorem dX9_linkItem_61 : decode cX9_linkItem 61 = .ok (.ireturn, 1) := by decide +kernel
theorem dX9_linkItem_62 : decode cX9_linkItem 62 = .ok (.aload_n 0, 1) := by decide +kernel
theorem dX9_linkItem_63 : decode cX9_linkItem 63 = .ok (.getfield 42, 3) := by decide +kernel
theorem dX9_linkItem_66 : decode cX9_linkItem 66 = .ok (.istore_n 2, 1) := by decide +kernel
theorem dX9_linkItem_67 : decode cX9_linkItem 67 = .ok (.aload_n 0, 1) := by decide +kernel
theorem dX9_linkItem_68 : decode cX9_linkItem 68 = .ok (.iconst 0, 1) := by decide +kernel
theorem dX9_linkItem_69 : decode cX9_linkItem 69 = .ok (.aload_n 0, 1) := by decide +kernel
theorem dX9_linkItem_70 : decode cX9_linkItem 70 = .ok (.getfield 18, 3) := by decide +kernel
theorem dX9_linkItem_73 : decode cX9_linkItem 73 = .ok (.getfield 95, 3) := by decide +kernel
theorem dX9_linkItem_76 : decode cX9_linkItem 76 = .ok (.invokevirtual 61, 3) := by decide +kernel
theorem dX9_linkItem_79 : decode cX9_linkItem 79 = .ok (.ifCond .eq 11, 3) := by decide +kernel
theorem dX9_linkItem_82 : decode cX9_linkItem 82 = .ok (.aload_n 0, 1) := by decide +kernel
theorem dX9_linkItem_83 : decode cX9_linkItem 83 = .ok (.getfield 42, 3) := by decide +kernel
theorem dX9_linkItem_86 : decode cX9_linkItem 86 = .ok (.iload_n 2, 1) := by decide +kernel
theorem dX9_linkItem_87 : decode cX9_linkItem 87 = .ok (.if_icmp .ne 5, 3) := by decide +kernel
theorem dX9_linkItem_90 : decode cX9_linkItem 90 = .ok (.iconst 0, 1) := by decide +kernel
theorem dX9_linkItem_91 : decode cX9_linkItem 91 = .ok (.ireturn, 1) := by decide +kernel
theorem dX9_linkItem_92 : decode cX9_linkItem 92 = .ok (.aload_n 0, 1) := by decide +kernel
theorem dX9_linkItem_93 : decode cX9_linkItem 93 = .ok (.getfield 18, 3) := by decide +kernel
theorem dX9_linkItem_96 : decode cX9_linkItem 96 = .ok (.iload_n 1, 1) := by decide +kernel
theorem dX9_linkItem_97 : decode cX9_linkItem 97 = .ok (.iload_n 2, 1) := by decide +kernel
theorem dX9_linkItem_98 : decode cX9_linkItem 98 = .ok (.aload_n 0, 1) := by decide +kernel
theorem dX9_linkItem_99 : decode cX9_linkItem 99 = .ok (.getfield 42, 3) := by decide +kernel
theorem dX9_linkItem_102 : decode cX9_linkItem 102 = .ok (.invokevirtual 100, 3) := by decide +kernel
theorem dX9_linkItem_105 : decode cX9_linkItem 105 = .ok (.pop, 1) := by decide +kernel
theorem dX9_linkItem_106 : decode cX9_linkItem 106 = .ok (.aload_n 0, 1) := by decide +kernel
theorem dX9_linkItem_107 : decode cX9_linkItem 107 = .ok (.invokevirtual 69, 3) := by decide +kernel
theorem dX9_linkItem_110 : decode cX9_linkItem 110 = .ok (.ireturn, 1) := by decide +kernel
def fX9_linkItem_21 (h : gx_H) : Option (Int32 × gx_H) :=
  gx_ret .boolean (0 : Int32) h
def fX9_linkItem_60 (h : gx_H) : Option (Int32 × gx_H) :=
  gx_ret .boolean (0 : Int32) h
def fX9_linkItem_90 (h : gx_H) : Option (Int32 × gx_H) :=
  gx_ret .boolean (0 : Int32) h
def fX9_linkItem (v0 : Nat) (h : gx_H) : Option (Int32 × gx_H) :=
  (gx_isO h v0 7).bind fun _ =>
  (gx_fR h v0 7 1).bind fun a1 =>
  (gx_fI h a1 0 2).bind fun x2 =>
  if (6 : Int32) ≤ x2 then
    fX9_linkItem_21 h
  else
    gx_bd (fX9_nextNumber v0 (0 : Int32) (5 : Int32) h) fun x4 h3 =>
    if x4 = 0 then
      fX9_linkItem_21 h3
    else
      (gx_fI h3 v0 7 7).bind fun x5 =>
      (gx_fR h3 v0 7 1).bind fun a6 =>
      (gx_fI h3 a6 0 0).bind fun x7 =>
      gx_bd (fX9_nextNumber v0 (1 : Int32) (x7 - (1 : Int32)) h3) fun x9 h8 =>
      if x9 = 0 then
        fX9_linkItem_60 h8
      else
        (gx_fR h8 v0 7 1).bind fun a10 =>
        (gx_fI h8 v0 7 7).bind fun x11 =>
        gx_bd (fX0_linkOn a10 x11 h8) fun x13 h12 =>
        if x13 = (-1 : Int32) then
          (gx_fI h12 v0 7 7).bind fun x14 =>
          (gx_fR h12 v0 7 1).bind fun a15 =>
          (gx_fI h12 a15 0 0).bind fun x16 =>
          gx_bd (fX9_nextNumber v0 (0 : Int32) x16 h12) fun x18 h17 =>
          if x18 = 0 then
            fX9_linkItem_90 h17
          else
            (gx_fI h17 v0 7 7).bind fun x19 =>
            if x19 = x14 then
              fX9_linkItem_90 h17
            else
              (gx_fR h17 v0 7 1).bind fun a20 =>
              (gx_fI h17 v0 7 7).bind fun x21 =>
              gx_bd (fX0_addLink a20 x5 x14 x21 h17) fun x23 h22 =>
              gx_bd (fX9_nextSemicolon v0 h22) fun x25 h24 =>
              gx_ret .boolean x25 h24
        else
          fX9_linkItem_60 h12
set_option maxRecDepth 100000 in
set_option maxHeartbeats 4000000 in
theorem gX9_linkItem_21 {E : gx_Env} {d : Nat}  : ∀  (h : gx_H), gx_G E RX9 cX9_linkItem 3 (some .boolean) false (d + 4) 0 0 21 [none, none, none] [] h (fun x : Int32 => some (.int x)) (fX9_linkItem_21 h) := by
  intro  h
  unfold fX9_linkItem_21
  refine gx_iconst (0 : Int32) dX9_linkItem_21 (by decide) ?_
  exact gx_zret dX9_linkItem_22 rfl
set_option maxRecDepth 100000 in
set_option maxHeartbeats 4000000 in
theorem gX9_linkItem_60 {E : gx_Env} {d : Nat}  : ∀  (h : gx_H), gx_G E RX9 cX9_linkItem 3 (some .boolean) false (d + 4) 0 0 60 [none, none, none] [] h (fun x : Int32 => some (.int x)) (fX9_linkItem_60 h) := by
  intro  h
  unfold fX9_linkItem_60
  refine gx_iconst (0 : Int32) dX9_linkItem_60 (by decide) ?_
  exact gx_zret dX9_linkItem_61 rfl
set_option maxRecDepth 100000 in
set_option maxHeartbeats 4000000 in
theorem gX9_linkItem_90 {E : gx_Env} {d : Nat}  : ∀  (h : gx_H), gx_G E RX9 cX9_linkItem 3 (some .boolean) false (d + 4) 0 0 90 [none, none, none] [] h (fun x : Int32 => some (.int x)) (fX9_linkItem_90 h) := by
  intro  h
  unfold fX9_linkItem_90
  refine gx_iconst (0 : Int32) dX9_linkItem_90 (by decide) ?_
  exact gx_zret dX9_linkItem_91 rfl
set_option maxRecDepth 100000 in
set_option maxHeartbeats 4000000 in
theorem geX9_linkItem {E : gx_Env} {d : Nat} (v0 : Nat) (h : gx_H) : gx_G E RX9 cX9_linkItem 3 (some .boolean) false (d + 4) 0 0 0 [some (.ref v0), none, none] [] h (fun x : Int32 => some (.int x)) (fX9_linkItem v0 h) := by
  unfold fX9_linkItem
  refine gx_bind fun _ _ => ?_
  refine gx_aload_n 0 dX9_linkItem_0 rfl rfl ?_
  refine gx_getR kf_RX9_18 dX9_linkItem_1 (fun a1 => ?_)
  refine gx_getI kf_RX9_92 dX9_linkItem_4 (fun x2 => ?_)
  refine gx_bipush (6 : Int32) dX9_linkItem_7 (by decide) ?_
  refine gx_icmp_ge 21 dX9_linkItem_9 (by decide) (fun _ => ?_) (fun _ => ?_)
  · exact gx_sub (gX9_linkItem_21 h) True.intro
  · refine gx_aload_n 0 dX9_linkItem_12 rfl rfl ?_
    refine gx_iconst (0 : Int32) dX9_linkItem_13 (by decide) ?_
    refine gx_iconst (5 : Int32) dX9_linkItem_14 (by decide) ?_
    refine gx_callV (ci := 7) (bc := 0) (bs := 0) (mc := 0) (ms := 0) (em' := (fun x : Int32 => some (.int x))) [.int (0 : Int32), .int (5 : Int32)] kc_RX9_61 rfl dX9_linkItem_15 rfl rfl (gx_w8 rfl) (fun x q => (gx_isO_of (by unfold fX9_nextNumber at q; exact q)).2) (fun _ _ q => okX9_nextNumber d q) (fun x4 h3 => ?_)
    refine gx_if_ne 23 dX9_linkItem_18 (by decide) (fun _ => ?_) (fun _ => ?_)
    · refine gx_aload_n 0 dX9_linkItem_23 rfl rfl ?_
      refine gx_getI kf_RX9_42 dX9_linkItem_24 (fun x5 => ?_)
      refine gx_istore_n 1 [some (.ref v0), some (.int x5), none] dX9_linkItem_27 rfl (by decide) rfl ?_
      refine gx_aload_n 0 dX9_linkItem_28 rfl rfl ?_
      refine gx_iconst (1 : Int32) dX9_linkItem_29 (by decide) ?_
      refine gx_aload_n 0 dX9_linkItem_30 rfl rfl ?_
      refine gx_getR kf_RX9_18 dX9_linkItem_31 (fun a6 => ?_)
      refine gx_getI kf_RX9_95 dX9_linkItem_34 (fun x7 => ?_)
      refine gx_iconst (1 : Int32) dX9_linkItem_37 (by decide) ?_
      refine gx_isub dX9_linkItem_38 ?_
      refine gx_callV (ci := 7) (bc := 0) (bs := 0) (mc := 0) (ms := 0) (em' := (fun x : Int32 => some (.int x))) [.int (1 : Int32), .int (x7 - (1 : Int32))] kc_RX9_61 rfl dX9_linkItem_39 rfl rfl (gx_w8 rfl) (fun x q => (gx_isO_of (by unfold fX9_nextNumber at q; exact q)).2) (fun _ _ q => okX9_nextNumber d q) (fun x9 h8 => ?_)
      refine gx_if_eq 60 dX9_linkItem_42 (by decide) (fun _ => ?_) (fun _ => ?_)
      · exact gx_sub (gX9_linkItem_60 h8) True.intro
      · refine gx_aload_n 0 dX9_linkItem_45 rfl rfl ?_
        refine gx_getR kf_RX9_18 dX9_linkItem_46 (fun a10 => ?_)
        refine gx_aload_n 0 dX9_linkItem_49 rfl rfl ?_
        refine gx_getI kf_RX9_42 dX9_linkItem_50 (fun x11 => ?_)
        refine gx_callV (ci := 0) (bc := 0) (bs := 0) (mc := 0) (ms := 0) (em' := (fun x : Int32 => some (.int x))) [.int x11] kc_RX9_96 rfl dX9_linkItem_53 rfl rfl (gx_w8 rfl) (fun x q => (gx_isO_of (by unfold fX0_linkOn at q; exact q)).2) (fun _ _ q => okX0_linkOn (d + 3) q) (fun x13 h12 => ?_)
        refine gx_iconst (-1 : Int32) dX9_linkItem_56 (by decide) ?_
        refine gx_icmp_eq 62 dX9_linkItem_57 (by decide) (fun _ => ?_) (fun _ => ?_)
        · refine gx_aload_n 0 dX9_linkItem_62 rfl rfl ?_
          refine gx_getI kf_RX9_42 dX9_linkItem_63 (fun x14 => ?_)
          refine gx_istore_n 2 [some (.ref v0), some (.int x5), some (.int x14)] dX9_linkItem_66 rfl (by decide) rfl ?_
          refine gx_aload_n 0 dX9_linkItem_67 rfl rfl ?_
          refine gx_iconst (0 : Int32) dX9_linkItem_68 (by decide) ?_
          refine gx_aload_n 0 dX9_linkItem_69 rfl rfl ?_
          refine gx_getR kf_RX9_18 dX9_linkItem_70 (fun a15 => ?_)
          refine gx_getI kf_RX9_95 dX9_linkItem_73 (fun x16 => ?_)
          refine gx_callV (ci := 7) (bc := 0) (bs := 0) (mc := 0) (ms := 0) (em' := (fun x : Int32 => some (.int x))) [.int (0 : Int32), .int x16] kc_RX9_61 rfl dX9_linkItem_76 rfl rfl (gx_w8 rfl) (fun x q => (gx_isO_of (by unfold fX9_nextNumber at q; exact q)).2) (fun _ _ q => okX9_nextNumber d q) (fun x18 h17 => ?_)
          refine gx_if_eq 90 dX9_linkItem_79 (by decide) (fun _ => ?_) (fun _ => ?_)
          · exact gx_sub (gX9_linkItem_90 h17) True.intro
          · refine gx_aload_n 0 dX9_linkItem_82 rfl rfl ?_
            refine gx_getI kf_RX9_42 dX9_linkItem_83 (fun x19 => ?_)
            refine gx_iload_n 2 dX9_linkItem_86 rfl rfl ?_
            refine gx_icmp_ne 92 dX9_linkItem_87 (by decide) (fun _ => ?_) (fun _ => ?_)
            · refine gx_aload_n 0 dX9_linkItem_92 rfl rfl ?_
              refine gx_getR kf_RX9_18 dX9_linkItem_93 (fun a20 => ?_)
              refine gx_iload_n 1 dX9_linkItem_96 rfl rfl ?_
              refine gx_iload_n 2 dX9_linkItem_97 rfl rfl ?_
              refine gx_aload_n 0 dX9_linkItem_98 rfl rfl ?_
              refine gx_getI kf_RX9_42 dX9_linkItem_99 (fun x21 => ?_)
              refine gx_callV (ci := 0) (bc := 0) (bs := 0) (mc := 0) (ms := 0) (em' := (fun x : Int32 => some (.int x))) [.int x5, .int x14, .int x21] kc_RX9_100 rfl dX9_linkItem_102 rfl rfl (gx_w8 rfl) (fun x q => (gx_isO_of (by unfold fX0_addLink at q; exact q)).2) (fun _ _ q => okX0_addLink (d + 3) q) (fun x23 h22 => ?_)
              refine gx_pop dX9_linkItem_105 rfl ?_
              refine gx_aload_n 0 dX9_linkItem_106 rfl rfl ?_
              refine gx_callV (ci := 7) (bc := 0) (bs := 0) (mc := 0) (ms := 0) (em' := (fun x : Int32 => some (.int x))) [] kc_RX9_69 rfl dX9_linkItem_107 rfl rfl (gx_w8 rfl) (fun x q => (gx_isO_of (by unfold fX9_nextSemicolon at q; exact q)).2) (fun _ _ q => okX9_nextSemicolon d q) (fun x25 h24 => ?_)
              exact gx_zret dX9_linkItem_110 rfl
            · exact gx_sub (gX9_linkItem_90 h17) True.intro
        · exact gx_sub (gX9_linkItem_60 h12) True.intro
    · exact gx_sub (gX9_linkItem_21 h3) True.intro
theorem okX9_linkItem {E : gx_Env} (d : Nat) {v0 : Nat} {h : gx_H} {r : Int32} {h1 : gx_H} (q : fX9_linkItem v0 h = some (r, h1)) : gx_M E yX9_linkItem cX9_linkItem 3 (some .boolean) (d + 4) 0 0 [.ref v0] h ((fun x : Int32 => some (.int x)) r) h1 := gx_meth (y := yX9_linkItem) (cc := cX9_linkItem) (nL := 3) (em := (fun x : Int32 => some (.int x))) (ini := false) [.ref v0] (by decide) (by simp [gx_sl]) (fun q => by cases q) (geX9_linkItem v0 h) q
theorem dX9_playerItem_0 : decode cX9_playerItem 0 = .ok (.aload_n 0, 1) := by decide +kernel
theorem dX9_playerItem_1 : decode cX9_playerItem 1 = .ok (.getfield 18, 3) := by decide +kernel
theorem dX9_playerItem_4 : decode cX9_playerItem 4 = .ok (.getfield 104, 3) := by decide +kernel
theorem dX9_playerItem_7 : decode cX9_playerItem 7 = .ok (.iconst 4, 1) := by decide +kernel
theorem dX9_playerItem_8 : decode cX9_playerItem 8 = .ok (.if_icmp .ge 12, 3) := by decide +kernel
theorem dX9_playerItem_11 : decode cX9_playerItem 11 = .ok (.aload_n 0, 1) := by decide +kernel
theorem dX9_playerItem_12 : decode cX9_playerItem 12 = .ok (.iconst 0, 1) := by decide +kernel
theorem dX9_playerItem_13 : decode cX9_playerItem 13 = .ok (.iconst 5, 1) := by decide +kernel
theorem dX9_playerItem_14 : decode cX9_playerItem 14 = .ok (.invokevirtual 61, 3) := by decide +kernel
theorem dX9_playerItem_17 : decode cX9_playerItem 17 = .ok (.ifCond .ne 5, 3) := by decide +kernel
theorem dX9_playerItem_20 : decode cX9_playerItem 20 = .ok (.iconst 0, 1) := by decide +kernel
theorem dX9_playerItem_21 : decode cX9_playerItem 21 = .ok (.ireturn, 1) := by decide +kernel
theorem dX9_playerItem_22 : decode cX9_playerItem 22 = .ok (.aload_n 0, 1) := by decide +kernel
theorem dX9_playerItem_23 : decode cX9_playerItem 23 = .ok (.getfield 18, 3) := by decide +kernel
theorem dX9_playerItem_26 : decode cX9_playerItem 26 = .ok (.aload_n 0, 1) := by decide +kernel
theorem dX9_playerItem_27 : decode cX9_playerItem 27 = .ok (.getfield 42, 3) := by decide +kernel
theorem dX9_playerItem_30 : decode cX9_playerItem 30 = .ok (.invokevirtual 107, 3) := by decide +kernel
theorem dX9_playerItem_33 : decode cX9_playerItem 33 = .ok (.pop, 1) := by decide +kernel
theorem dX9_playerItem_34 : decode cX9_playerItem 34 = .ok (.aload_n 0, 1) := by decide +kernel
theorem dX9_playerItem_35 : decode cX9_playerItem 35 = .ok (.invokevirtual 69, 3) := by decide +kernel
theorem dX9_playerItem_38 : decode cX9_playerItem 38 = .ok (.ireturn, 1) := by decide +kernel
def fX9_playerItem_20 (h : gx_H) : Option (Int32 × gx_H) :=
  gx_ret .boolean (0 : Int32) h
def fX9_playerItem (v0 : Nat) (h : gx_H) : Option (Int32 × gx_H) :=
  (gx_isO h v0 7).bind fun _ =>
  (gx_fR h v0 7 1).bind fun a1 =>
  (gx_fI h a1 0 3).bind fun x2 =>
  if (4 : Int32) ≤ x2 then
    fX9_playerItem_20 h
  else
    gx_bd (fX9_nextNumber v0 (0 : Int32) (5 : Int32) h) fun x4 h3 =>
    if x4 = 0 then
      fX9_playerItem_20 h3
    else
      (gx_fR h3 v0 7 1).bind fun a5 =>
      (gx_fI h3 v0 7 7).bind fun x6 =>
      gx_bd (fX0_addPlayer a5 x6 h3) fun x8 h7 =>
      gx_bd (fX9_nextSemicolon v0 h7) fun x10 h9 =>
      gx_ret .boolean x10 h9
set_option maxRecDepth 100000 in
set_option maxHeartbeats 4000000 in
theorem gX9_playerItem_20 {E : gx_Env} {d : Nat}  : ∀  (h : gx_H), gx_G E RX9 cX9_playerItem 1 (some .boolean) false (d + 4) 0 0 20 [none] [] h (fun x : Int32 => some (.int x)) (fX9_playerItem_20 h) := by
  intro  h
  unfold fX9_playerItem_20
  refine gx_iconst (0 : Int32) dX9_playerItem_20 (by decide) ?_
  exact gx_zret dX9_playerItem_21 rfl
set_option maxRecDepth 100000 in
set_option maxHeartbeats 4000000 in
theorem geX9_playerItem {E : gx_Env} {d : Nat} (v0 : Nat) (h : gx_H) : gx_G E RX9 cX9_playerItem 1 (some .boolean) false (d + 4) 0 0 0 [some (.ref v0)] [] h (fun x : Int32 => some (.int x)) (fX9_playerItem v0 h) := by
  unfold fX9_playerItem
  refine gx_bind fun _ _ => ?_
  refine gx_aload_n 0 dX9_playerItem_0 rfl rfl ?_
  refine gx_getR kf_RX9_18 dX9_playerItem_1 (fun a1 => ?_)
  refine gx_getI kf_RX9_104 dX9_playerItem_4 (fun x2 => ?_)
  refine gx_iconst (4 : Int32) dX9_playerItem_7 (by decide) ?_
  refine gx_icmp_ge 20 dX9_playerItem_8 (by decide) (fun _ => ?_) (fun _ => ?_)
  · exact gx_sub (gX9_playerItem_20 h) True.intro
  · refine gx_aload_n 0 dX9_playerItem_11 rfl rfl ?_
    refine gx_iconst (0 : Int32) dX9_playerItem_12 (by decide) ?_
    refine gx_iconst (5 : Int32) dX9_playerItem_13 (by decide) ?_
    refine gx_callV (ci := 7) (bc := 0) (bs := 0) (mc := 0) (ms := 0) (em' := (fun x : Int32 => some (.int x))) [.int (0 : Int32), .int (5 : Int32)] kc_RX9_61 rfl dX9_playerItem_14 rfl rfl (gx_w8 rfl) (fun x q => (gx_isO_of (by unfold fX9_nextNumber at q; exact q)).2) (fun _ _ q => okX9_nextNumber d q) (fun x4 h3 => ?_)
    refine gx_if_ne 22 dX9_playerItem_17 (by decide) (fun _ => ?_) (fun _ => ?_)
    · refine gx_aload_n 0 dX9_playerItem_22 rfl rfl ?_
      refine gx_getR kf_RX9_18 dX9_playerItem_23 (fun a5 => ?_)
      refine gx_aload_n 0 dX9_playerItem_26 rfl rfl ?_
      refine gx_getI kf_RX9_42 dX9_playerItem_27 (fun x6 => ?_)
      refine gx_callV (ci := 0) (bc := 0) (bs := 0) (mc := 0) (ms := 0) (em' := (fun x : Int32 => some (.int x))) [.int x6] kc_RX9_107 rfl dX9_playerItem_30 rfl rfl (gx_w8 rfl) (fun x q => (gx_isO_of (by unfold fX0_addPlayer at q; exact q)).2) (fun _ _ q => okX0_addPlayer (d + 3) q) (fun x8 h7 => ?_)
      refine gx_pop dX9_playerItem_33 rfl ?_
      refine gx_aload_n 0 dX9_playerItem_34 rfl rfl ?_
      refine gx_callV (ci := 7) (bc := 0) (bs := 0) (mc := 0) (ms := 0) (em' := (fun x : Int32 => some (.int x))) [] kc_RX9_69 rfl dX9_playerItem_35 rfl rfl (gx_w8 rfl) (fun x q => (gx_isO_of (by unfold fX9_nextSemicolon at q; exact q)).2) (fun _ _ q => okX9_nextSemicolon d q) (fun x10 h9 => ?_)
      exact gx_zret dX9_playerItem_38 rfl
    · exact gx_sub (gX9_playerItem_20 h3) True.intro
theorem okX9_playerItem {E : gx_Env} (d : Nat) {v0 : Nat} {h : gx_H} {r : Int32} {h1 : gx_H} (q : fX9_playerItem v0 h = some (r, h1)) : gx_M E yX9_playerItem cX9_playerItem 1 (some .boolean) (d + 4) 0 0 [.ref v0] h ((fun x : Int32 => some (.int x)) r) h1 := gx_meth (y := yX9_playerItem) (cc := cX9_playerItem) (nL := 1) (em := (fun x : Int32 => some (.int x))) (ini := false) [.ref v0] (by decide) (by simp [gx_sl]) (fun q => by cases q) (geX9_playerItem v0 h) q
theorem dX9_setItem_0 : decode cX9_setItem 0 = .ok (.aload_n 0, 1) := by decide +kernel
theorem dX9_setItem_1 : decode cX9_setItem 1 = .ok (.iconst 0, 1) := by decide +kernel
theorem dX9_setItem_2 : decode cX9_setItem 2 = .ok (.aload_n 0, 1) := by decide +kernel
theorem dX9_setItem_3 : decode cX9_setItem 3 = .ok (.getfield 18, 3) := by decide +kernel
theorem dX9_setItem_6 : decode cX9_setItem 6 = .ok (.getfield 104, 3) := by decide +kernel
theorem dX9_setItem_9 : decode cX9_setItem 9 = .ok (.iconst 1, 1) := by decide +kernel
theorem dX9_setItem_10 : decode cX9_setItem 10 = .ok (.isub, 1) := by decide +kernel
theorem dX9_setItem_11 : decode cX9_setItem 11 = .ok (.invokevirtual 61, 3) := by decide +kernel
theorem dX9_setItem_14 : decode cX9_setItem 14 = .ok (.ifCond .ne 5, 3) := by decide +kernel
theorem dX9_setItem_17 : decode cX9_setItem 17 = .ok (.iconst 0, 1) := by decide +kernel
theorem dX9_setItem_18 : decode cX9_setItem 18 = .ok (.ireturn, 1) := by decide +kernel
theorem dX9_setItem_19 : decode cX9_setItem 19 = .ok (.aload_n 0, 1) := by decide +kernel
theorem dX9_setItem_20 : decode cX9_setItem 20 = .ok (.getfield 42, 3) := by decide +kernel
theorem dX9_setItem_23 : decode cX9_setItem 23 = .ok (.istore_n 1, 1) := by decide +kernel
theorem dX9_setItem_24 : decode cX9_setItem 24 = .ok (.aload_n 0, 1) := by decide +kernel
theorem dX9_setItem_25 : decode cX9_setItem 25 = .ok (.iconst 0, 1) := by decide +kernel
theorem dX9_setItem_26 : decode cX9_setItem 26 = .ok (.aload_n 0, 1) := by decide +kernel
theorem dX9_setItem_27 : decode cX9_setItem 27 = .ok (.getfield 18, 3) := by decide +kernel
theorem dX9_setItem_30 : decode cX9_setItem 30 = .ok (.getfield 95, 3) := by decide +kernel
theorem dX9_setItem_33 : decode cX9_setItem 33 = .ok (.invokevirtual 61, 3) := by decide +kernel
theorem dX9_setItem_36 : decode cX9_setItem 36 = .ok (.ifCond .ne 5, 3) := by decide +kernel
theorem dX9_setItem_39 : decode cX9_setItem 39 = .ok (.iconst 0, 1) := by decide +kernel
theorem dX9_setItem_40 : decode cX9_setItem 40 = .ok (.ireturn, 1) := by decide +kernel
theorem dX9_setItem_41 : decode cX9_setItem 41 = .ok (.aload_n 0, 1) := by decide +kernel
theorem dX9_setItem_42 : decode cX9_setItem 42 = .ok (.getfield 18, 3) := by decide +kernel
theorem dX9_setItem_45 : decode cX9_setItem 45 = .ok (.getfield 110, 3) := by decide +kernel
theorem dX9_setItem_48 : decode cX9_setItem 48 = .ok (.iload_n 1, 1) := by decide +kernel
theorem dX9_setItem_49 : decode cX9_setItem 49 = .ok (.aload_n 0, 1) := by decide +kernel
theorem dX9_setItem_50 : decode cX9_setItem 50 = .ok (.getfield 42, 3) := by decide +kernel
theorem dX9_setItem_53 : decode cX9_setItem 53 = .ok (.iastore, 1) := by decide +kernel
theorem dX9_setItem_54 : decode cX9_setItem 54 = .ok (.aload_n 0, 1) := by decide +kernel
theorem dX9_setItem_55 : decode cX9_setItem 55 = .ok (.invokevirtual 69, 3) := by decide +kernel
theorem dX9_setItem_58 : decode cX9_setItem 58 = .ok (.ireturn, 1) := by decide +kernel
def fX9_setItem (v0 : Nat) (h : gx_H) : Option (Int32 × gx_H) :=
  (gx_isO h v0 7).bind fun _ =>
  (gx_fR h v0 7 1).bind fun a1 =>
  (gx_fI h a1 0 3).bind fun x2 =>
  gx_bd (fX9_nextNumber v0 (0 : Int32) (x2 - (1 : Int32)) h) fun x4 h3 =>
  if x4 = 0 then
    gx_ret .boolean (0 : Int32) h3
  else
    (gx_fI h3 v0 7 7).bind fun x5 =>
    (gx_fR h3 v0 7 1).bind fun a6 =>
    (gx_fI h3 a6 0 0).bind fun x7 =>
    gx_bd (fX9_nextNumber v0 (0 : Int32) x7 h3) fun x9 h8 =>
    if x9 = 0 then
      gx_ret .boolean (0 : Int32) h8
    else
      (gx_fR h8 v0 7 1).bind fun a10 =>
      (gx_fR h8 a10 0 9).bind fun a11 =>
      (gx_fI h8 v0 7 7).bind fun x12 =>
      (gx_sI 0 h8 a11 x5 x12).bind fun h13 =>
      gx_bd (fX9_nextSemicolon v0 h13) fun x15 h14 =>
      gx_ret .boolean x15 h14
set_option maxRecDepth 100000 in
set_option maxHeartbeats 4000000 in
theorem geX9_setItem {E : gx_Env} {d : Nat} (v0 : Nat) (h : gx_H) : gx_G E RX9 cX9_setItem 2 (some .boolean) false (d + 4) 0 0 0 [some (.ref v0), none] [] h (fun x : Int32 => some (.int x)) (fX9_setItem v0 h) := by
  unfold fX9_setItem
  refine gx_bind fun _ _ => ?_
  refine gx_aload_n 0 dX9_setItem_0 rfl rfl ?_
  refine gx_iconst (0 : Int32) dX9_setItem_1 (by decide) ?_
  refine gx_aload_n 0 dX9_setItem_2 rfl rfl ?_
  refine gx_getR kf_RX9_18 dX9_setItem_3 (fun a1 => ?_)
  refine gx_getI kf_RX9_104 dX9_setItem_6 (fun x2 => ?_)
  refine gx_iconst (1 : Int32) dX9_setItem_9 (by decide) ?_
  refine gx_isub dX9_setItem_10 ?_
  refine gx_callV (ci := 7) (bc := 0) (bs := 0) (mc := 0) (ms := 0) (em' := (fun x : Int32 => some (.int x))) [.int (0 : Int32), .int (x2 - (1 : Int32))] kc_RX9_61 rfl dX9_setItem_11 rfl rfl (gx_w8 rfl) (fun x q => (gx_isO_of (by unfold fX9_nextNumber at q; exact q)).2) (fun _ _ q => okX9_nextNumber d q) (fun x4 h3 => ?_)
  refine gx_if_ne 19 dX9_setItem_14 (by decide) (fun _ => ?_) (fun _ => ?_)
  · refine gx_aload_n 0 dX9_setItem_19 rfl rfl ?_
    refine gx_getI kf_RX9_42 dX9_setItem_20 (fun x5 => ?_)
    refine gx_istore_n 1 [some (.ref v0), some (.int x5)] dX9_setItem_23 rfl (by decide) rfl ?_
    refine gx_aload_n 0 dX9_setItem_24 rfl rfl ?_
    refine gx_iconst (0 : Int32) dX9_setItem_25 (by decide) ?_
    refine gx_aload_n 0 dX9_setItem_26 rfl rfl ?_
    refine gx_getR kf_RX9_18 dX9_setItem_27 (fun a6 => ?_)
    refine gx_getI kf_RX9_95 dX9_setItem_30 (fun x7 => ?_)
    refine gx_callV (ci := 7) (bc := 0) (bs := 0) (mc := 0) (ms := 0) (em' := (fun x : Int32 => some (.int x))) [.int (0 : Int32), .int x7] kc_RX9_61 rfl dX9_setItem_33 rfl rfl (gx_w8 rfl) (fun x q => (gx_isO_of (by unfold fX9_nextNumber at q; exact q)).2) (fun _ _ q => okX9_nextNumber d q) (fun x9 h8 => ?_)
    refine gx_if_ne 41 dX9_setItem_36 (by decide) (fun _ => ?_) (fun _ => ?_)
    · refine gx_aload_n 0 dX9_setItem_41 rfl rfl ?_
      refine gx_getR kf_RX9_18 dX9_setItem_42 (fun a10 => ?_)
      refine gx_getR kf_RX9_110 dX9_setItem_45 (fun a11 => ?_)
      refine gx_iload_n 1 dX9_setItem_48 rfl rfl ?_
      refine gx_aload_n 0 dX9_setItem_49 rfl rfl ?_
      refine gx_getI kf_RX9_42 dX9_setItem_50 (fun x12 => ?_)
      refine gx_iast dX9_setItem_53 (fun h13 => ?_)
      refine gx_aload_n 0 dX9_setItem_54 rfl rfl ?_
      refine gx_callV (ci := 7) (bc := 0) (bs := 0) (mc := 0) (ms := 0) (em' := (fun x : Int32 => some (.int x))) [] kc_RX9_69 rfl dX9_setItem_55 rfl rfl (gx_w8 rfl) (fun x q => (gx_isO_of (by unfold fX9_nextSemicolon at q; exact q)).2) (fun _ _ q => okX9_nextSemicolon d q) (fun x15 h14 => ?_)
      exact gx_zret dX9_setItem_58 rfl
    · refine gx_iconst (0 : Int32) dX9_setItem_39 (by decide) ?_
      exact gx_zret dX9_setItem_40 rfl
  · refine gx_iconst (0 : Int32) dX9_setItem_17 (by decide) ?_
    exact gx_zret dX9_setItem_18 rfl
theorem okX9_setItem {E : gx_Env} (d : Nat) {v0 : Nat} {h : gx_H} {r : Int32} {h1 : gx_H} (q : fX9_setItem v0 h = some (r, h1)) : gx_M E yX9_setItem cX9_setItem 2 (some .boolean) (d + 4) 0 0 [.ref v0] h ((fun x : Int32 => some (.int x)) r) h1 := gx_meth (y := yX9_setItem) (cc := cX9_setItem) (nL := 2) (em := (fun x : Int32 => some (.int x))) (ini := false) [.ref v0] (by decide) (by simp [gx_sl]) (fun q => by cases q) (geX9_setItem v0 h) q
theorem dX9_throwItem_0 : decode cX9_throwItem 0 = .ok (.aload_n 0, 1) := by decide +kernel
theorem dX9_throwItem_1 : decode cX9_throwItem 1 = .ok (.iconst 0, 1) := by decide +kernel
theorem dX9_throwItem_2 : decode cX9_throwItem 2 = .ok (.aload_n 0, 1) := by decide +kernel
theorem dX9_throwItem_3 : decode cX9_throwItem 3 = .ok (.getfield 18, 3) := by decide +kernel
theorem dX9_throwItem_6 : decode cX9_throwItem 6 = .ok (.getfield 104, 3) := by decide +kernel
theorem dX9_throwItem_9 : decode cX9_throwItem 9 = .ok (.iconst 1, 1) := by decide +kernel
theorem dX9_throwItem_10 : decode cX9_throwItem 10 = .ok (.isub, 1) := by decide +kernel
theorem dX9_throwItem_11 : decode cX9_throwItem 11 = .ok (.invokevirtual 61, 3) := by decide +kernel
theorem dX9_throwItem_14 : decode cX9_throwItem 14 = .ok (.ifCond .ne 5, 3) := by decide +kernel
theorem dX9_throwItem_17 : decode cX9_throwItem 17 = .ok (.iconst 0, 1) := by decide +kernel
theorem dX9_throwItem_18 : decode cX9_throwItem 18 = .ok (.ireturn, 1) := by decide +kernel
theorem dX9_throwItem_19 : decode cX9_throwItem 19 = .ok (.aload_n 0, 1) := by decide +kernel
theorem dX9_throwItem_20 : decode cX9_throwItem 20 = .ok (.getfield 42, 3) := by decide +kernel
theorem dX9_throwItem_23 : decode cX9_throwItem 23 = .ok (.istore_n 1, 1) := by decide +kernel
theorem dX9_throwItem_24 : decode cX9_throwItem 24 = .ok (.iconst 0, 1) := by decide +kernel
theorem dX9_throwItem_25 : decode cX9_throwItem 25 = .ok (.istore_n 2, 1) := by decide +kernel
theorem dX9_throwItem_26 : decode cX9_throwItem 26 = .ok (.iload_n 2, 1) := by decide +kernel
theorem dX9_throwItem_27 : decode cX9_throwItem 27 = .ok (.bipush 9, 2) := by decide +kernel
theorem dX9_throwItem_29 : decode cX9_throwItem 29 = .ok (.if_icmp .ge 71, 3) := by decide +kernel
theorem dX9_throwItem_32 : decode cX9_throwItem 32 = .ok (.aload_n 0, 1) := by decide +kernel
theorem dX9_throwItem_33 : decode cX9_throwItem 33 = .ok (.invokevirtual 45, 3) := by decide +kernel
theorem dX9_throwItem_36 : decode cX9_throwItem 36 = .ok (.iload_n 2, 1) := by decide +kernel
theorem dX9_throwItem_37 : decode cX9_throwItem 37 = .ok (.ifCond .le 13, 3) := by decide +kernel
theorem dX9_throwItem_40 : decode cX9_throwItem 40 = .ok (.aload_n 0, 1) := by decide +kernel
theorem dX9_throwItem_41 : decode cX9_throwItem 41 = .ok (.getfield 33, 3) := by decide +kernel
theorem dX9_throwItem_44 : decode cX9_throwItem 44 = .ok (.iconst 3, 1) := by decide +kernel
theorem dX9_throwItem_45 : decode cX9_throwItem 45 = .ok (.if_icmp .ne 5, 3) := by decide +kernel
theorem dX9_throwItem_48 : decode cX9_throwItem 48 = .ok (.iconst 1, 1) := by decide +kernel
theorem dX9_throwItem_49 : decode cX9_throwItem 49 = .ok (.ireturn, 1) := by decide +kernel
theorem dX9_throwItem_50 : decode cX9_throwItem 50 = .ok (.aload_n 0, 1) := by decide +kernel
theorem dX9_throwItem_51 : decode cX9_throwItem 51 = .ok (.iconst 1, 1) := by decide +kernel
theorem dX9_throwItem_52 : decode cX9_throwItem 52 = .ok (.aload_n 0, 1) := by decide +kernel
theorem dX9_throwItem_53 : decode cX9_throwItem 53 = .ok (.getfield 18, 3) := by decide +kernel
theorem dX9_throwItem_56 : decode cX9_throwItem 56 = .ok (.getfield 114, 3) := by decide +kernel
theorem dX9_throwItem_59 : decode cX9_throwItem 59 = .ok (.invokevirtual 117, 3) := by decide +kernel
theorem dX9_throwItem_62 : decode cX9_throwItem 62 = .ok (.ifCond .eq 14, 3) := by decide +kernel
theorem dX9_throwItem_65 : decode cX9_throwItem 65 = .ok (.aload_n 0, 1) := by decide +kernel
theorem dX9_throwItem_66 : decode cX9_throwItem 66 = .ok (.getfield 18, 3) := by decide +kernel
theorem dX9_throwItem_69 : decode cX9_throwItem 69 = .ok (.iload_n 1, 1) := by decide +kernel
theorem dX9_throwItem_70 : decode cX9_throwItem 70 = .ok (.invokevirtual 120, 3) := by decide +kernel
theorem dX9_throwItem_73 : decode cX9_throwItem 73 = .ok (.ifCond .eq 5, 3) := by decide +kernel
theorem dX9_throwItem_76 : decode cX9_throwItem 76 = .ok (.iconst 0, 1) := by decide +kernel
theorem dX9_throwItem_77 : decode cX9_throwItem 77 = .ok (.ireturn, 1) := by decide +kernel
theorem dX9_throwItem_78 : decode cX9_throwItem 78 = .ok (.aload_n 0, 1) := by decide +kernel
theorem dX9_throwItem_79 : decode cX9_throwItem 79 = .ok (.getfield 18, 3) := by decide +kernel
theorem dX9_throwItem_82 : decode cX9_throwItem 82 = .ok (.iload_n 1, 1) := by decide +kernel
theorem dX9_throwItem_83 : decode cX9_throwItem 83 = .ok (.aload_n 0, 1) := by decide +kernel
theorem dX9_throwItem_84 : decode cX9_throwItem 84 = .ok (.getfield 42, 3) := by decide +kernel
theorem dX9_throwItem_87 : decode cX9_throwItem 87 = .ok (.aload_n 0, 1) := by decide +kernel
theorem dX9_throwItem_88 : decode cX9_throwItem 88 = .ok (.getfield 29, 3) := by decide +kernel
theorem dX9_throwItem_91 : decode cX9_throwItem 91 = .ok (.invokevirtual 124, 3) := by decide +kernel
theorem dX9_throwItem_94 : decode cX9_throwItem 94 = .ok (.iinc 2 1, 3) := by decide +kernel
theorem dX9_throwItem_97 : decode cX9_throwItem 97 = .ok (.goto (-71), 3) := by decide +kernel
theorem dX9_throwItem_100 : decode cX9_throwItem 100 = .ok (.aload_n 0, 1) := by decide +kernel
theorem dX9_throwItem_101 : decode cX9_throwItem 101 = .ok (.invokevirtual 69, 3) := by decide +kernel
theorem dX9_throwItem_104 : decode cX9_throwItem 104 = .ok (.ireturn, 1) := by decide +kernel
def fX9_throwItem_76 (h : gx_H) : Option (Int32 × gx_H) :=
  gx_ret .boolean (0 : Int32) h
def fX9_throwItem_50 (k26 : Nat → Int32 → Int32 → gx_H → Option (Int32 × gx_H)) (v0 : Nat) (v1 : Int32) (v2 : Int32) (h : gx_H) : Option (Int32 × gx_H) :=
  (gx_fR h v0 7 1).bind fun a11 =>
  (gx_fI h a11 0 1).bind fun x12 =>
  gx_bd (fX9_isNumber v0 (1 : Int32) x12 h) fun x14 h13 =>
  if x14 = 0 then
    fX9_throwItem_76 h13
  else
    (gx_fR h13 v0 7 1).bind fun a15 =>
    gx_bd (fX0_isHome a15 v1 h13) fun x17 h16 =>
    if x17 = 0 then
      (gx_fR h16 v0 7 1).bind fun a18 =>
      (gx_fI h16 v0 7 7).bind fun x19 =>
      (gx_fR h16 v0 7 3).bind fun a20 =>
      gx_bd (fX0_move a18 v1 x19 a20 h16) fun u22 h21 =>
      k26 v0 v1 (v2 + (1 : Int32)) h21
    else
      fX9_throwItem_76 h16
def bX9_throwItem_26 (k26 : Nat → Int32 → Int32 → gx_H → Option (Int32 × gx_H)) (v0 : Nat) (v1 : Int32) (v2 : Int32) (h : gx_H) : Option (Int32 × gx_H) :=
  if (9 : Int32) ≤ v2 then
    gx_bd (fX9_nextSemicolon v0 h) fun x7 h6 =>
    gx_ret .boolean x7 h6
  else
    gx_bd (fX9_nextToken v0 h) fun u9 h8 =>
    if v2 ≤ 0 then
      fX9_throwItem_50 k26 v0 v1 v2 h8
    else
      (gx_fI h8 v0 7 4).bind fun x10 =>
      if x10 = (3 : Int32) then
        gx_ret .boolean (1 : Int32) h8
      else
        fX9_throwItem_50 k26 v0 v1 v2 h8
def fX9_throwItem_26 : Nat → Nat → Int32 → Int32 → gx_H → Option (Int32 × gx_H)
  | 0 => fun _ _ _ _ => none
  | n + 1 => bX9_throwItem_26 (fX9_throwItem_26 n)
def fX9_throwItem (v0 : Nat) (h : gx_H) : Option (Int32 × gx_H) :=
  (gx_isO h v0 7).bind fun _ =>
  (gx_fR h v0 7 1).bind fun a1 =>
  (gx_fI h a1 0 3).bind fun x2 =>
  gx_bd (fX9_nextNumber v0 (0 : Int32) (x2 - (1 : Int32)) h) fun x4 h3 =>
  if x4 = 0 then
    gx_ret .boolean (0 : Int32) h3
  else
    (gx_fI h3 v0 7 7).bind fun x5 =>
    fX9_throwItem_26 gx_N v0 x5 (0 : Int32) h3
set_option maxRecDepth 100000 in
set_option maxHeartbeats 4000000 in
theorem gX9_throwItem_76 {E : gx_Env} {d : Nat}  : ∀  (h : gx_H), gx_G E RX9 cX9_throwItem 3 (some .boolean) false (d + 4) 0 0 76 [none, none, none] [] h (fun x : Int32 => some (.int x)) (fX9_throwItem_76 h) := by
  intro  h
  unfold fX9_throwItem_76
  refine gx_iconst (0 : Int32) dX9_throwItem_76 (by decide) ?_
  exact gx_zret dX9_throwItem_77 rfl
set_option maxRecDepth 100000 in
set_option maxHeartbeats 4000000 in
theorem gX9_throwItem_50 {E : gx_Env} {d : Nat} (k26 : Nat → Int32 → Int32 → gx_H → Option (Int32 × gx_H)) (hk26 : ∀ (v0 : Nat) (v1 : Int32) (v2 : Int32) (h : gx_H), gx_G E RX9 cX9_throwItem 3 (some .boolean) false (d + 4) 0 0 26 [some (.ref v0), some (.int v1), some (.int v2)] [] h (fun x : Int32 => some (.int x)) (k26 v0 v1 v2 h))  : ∀ (v0 : Nat) (v1 : Int32) (v2 : Int32) (h : gx_H), gx_G E RX9 cX9_throwItem 3 (some .boolean) false (d + 4) 0 0 50 [some (.ref v0), some (.int v1), some (.int v2)] [] h (fun x : Int32 => some (.int x)) (fX9_throwItem_50 k26 v0 v1 v2 h) := by
  intro v0 v1 v2 h
  unfold fX9_throwItem_50
  refine gx_aload_n 0 dX9_throwItem_50 rfl rfl ?_
  refine gx_iconst (1 : Int32) dX9_throwItem_51 (by decide) ?_
  refine gx_aload_n 0 dX9_throwItem_52 rfl rfl ?_
  refine gx_getR kf_RX9_18 dX9_throwItem_53 (fun a11 => ?_)
  refine gx_getI kf_RX9_114 dX9_throwItem_56 (fun x12 => ?_)
  refine gx_callV (ci := 7) (bc := 0) (bs := 0) (mc := 0) (ms := 0) (em' := (fun x : Int32 => some (.int x))) [.int (1 : Int32), .int x12] kc_RX9_117 rfl dX9_throwItem_59 rfl rfl (gx_w8 rfl) (fun x q => (gx_isO_of (by unfold fX9_isNumber at q; exact q)).2) (fun _ _ q => okX9_isNumber (d + 2) q) (fun x14 h13 => ?_)
  refine gx_if_eq 76 dX9_throwItem_62 (by decide) (fun _ => ?_) (fun _ => ?_)
  · exact gx_sub (gX9_throwItem_76 h13) True.intro
  · refine gx_aload_n 0 dX9_throwItem_65 rfl rfl ?_
    refine gx_getR kf_RX9_18 dX9_throwItem_66 (fun a15 => ?_)
    refine gx_iload_n 1 dX9_throwItem_69 rfl rfl ?_
    refine gx_callV (ci := 0) (bc := 0) (bs := 0) (mc := 0) (ms := 0) (em' := (fun x : Int32 => some (.int x))) [.int v1] kc_RX9_120 rfl dX9_throwItem_70 rfl rfl (gx_w8 rfl) (fun x q => (gx_isO_of (by unfold fX0_isHome at q; exact q)).2) (fun _ _ q => okX0_isHome (d + 3) q) (fun x17 h16 => ?_)
    refine gx_if_eq 78 dX9_throwItem_73 (by decide) (fun _ => ?_) (fun _ => ?_)
    · refine gx_aload_n 0 dX9_throwItem_78 rfl rfl ?_
      refine gx_getR kf_RX9_18 dX9_throwItem_79 (fun a18 => ?_)
      refine gx_iload_n 1 dX9_throwItem_82 rfl rfl ?_
      refine gx_aload_n 0 dX9_throwItem_83 rfl rfl ?_
      refine gx_getI kf_RX9_42 dX9_throwItem_84 (fun x19 => ?_)
      refine gx_aload_n 0 dX9_throwItem_87 rfl rfl ?_
      refine gx_getR kf_RX9_29 dX9_throwItem_88 (fun a20 => ?_)
      refine gx_callV (ci := 0) (bc := 0) (bs := 0) (mc := 0) (ms := 0) (em' := (fun _ : Unit => none)) [.int v1, .int x19, .ref a20] kc_RX9_124 rfl dX9_throwItem_91 rfl rfl (gx_w8 rfl) (fun x q => (gx_isO_of (by unfold fX0_move at q; exact q)).2) (fun _ _ q => okX0_move d q) (fun u22 h21 => ?_)
      refine gx_iinc (1 : Int32) [some (.ref v0), some (.int v1), some (.int (v2 + (1 : Int32)))] dX9_throwItem_94 rfl (by decide) (by decide) rfl ?_
      refine gx_goto 26 dX9_throwItem_97 (by decide) ?_
      exact gx_sub (hk26 v0 v1 (v2 + (1 : Int32)) h21) (And.intro rfl (And.intro rfl (And.intro rfl True.intro)))
    · exact gx_sub (gX9_throwItem_76 h16) True.intro
set_option maxRecDepth 100000 in
set_option maxHeartbeats 4000000 in
theorem gbX9_throwItem_26 {E : gx_Env} {d : Nat}  (k26 : Nat → Int32 → Int32 → gx_H → Option (Int32 × gx_H)) (hk26 : ∀ (v0 : Nat) (v1 : Int32) (v2 : Int32) (h : gx_H), gx_G E RX9 cX9_throwItem 3 (some .boolean) false (d + 4) 0 0 26 [some (.ref v0), some (.int v1), some (.int v2)] [] h (fun x : Int32 => some (.int x)) (k26 v0 v1 v2 h))  : ∀ (v0 : Nat) (v1 : Int32) (v2 : Int32) (h : gx_H), gx_G E RX9 cX9_throwItem 3 (some .boolean) false (d + 4) 0 0 26 [some (.ref v0), some (.int v1), some (.int v2)] [] h (fun x : Int32 => some (.int x)) (bX9_throwItem_26 k26 v0 v1 v2 h) := by
  intro v0 v1 v2 h
  unfold bX9_throwItem_26
  refine gx_iload_n 2 dX9_throwItem_26 rfl rfl ?_
  refine gx_bipush (9 : Int32) dX9_throwItem_27 (by decide) ?_
  refine gx_icmp_ge 100 dX9_throwItem_29 (by decide) (fun _ => ?_) (fun _ => ?_)
  · refine gx_aload_n 0 dX9_throwItem_100 rfl rfl ?_
    refine gx_callV (ci := 7) (bc := 0) (bs := 0) (mc := 0) (ms := 0) (em' := (fun x : Int32 => some (.int x))) [] kc_RX9_69 rfl dX9_throwItem_101 rfl rfl (gx_w8 rfl) (fun x q => (gx_isO_of (by unfold fX9_nextSemicolon at q; exact q)).2) (fun _ _ q => okX9_nextSemicolon d q) (fun x7 h6 => ?_)
    exact gx_zret dX9_throwItem_104 rfl
  · refine gx_aload_n 0 dX9_throwItem_32 rfl rfl ?_
    refine gx_callV (ci := 7) (bc := 0) (bs := 0) (mc := 0) (ms := 0) (em' := (fun _ : Unit => none)) [] kc_RX9_45 rfl dX9_throwItem_33 rfl rfl (gx_w8 rfl) (fun x q => (gx_isO_of (by unfold fX9_nextToken at q; exact q)).2) (fun _ _ q => okX9_nextToken (d + 1) q) (fun u9 h8 => ?_)
    refine gx_iload_n 2 dX9_throwItem_36 rfl rfl ?_
    refine gx_if_le 50 dX9_throwItem_37 (by decide) (fun _ => ?_) (fun _ => ?_)
    · exact gx_sub (gX9_throwItem_50 k26 hk26 v0 v1 v2 h8) (And.intro rfl (And.intro rfl (And.intro rfl True.intro)))
    · refine gx_aload_n 0 dX9_throwItem_40 rfl rfl ?_
      refine gx_getI kf_RX9_33 dX9_throwItem_41 (fun x10 => ?_)
      refine gx_iconst (3 : Int32) dX9_throwItem_44 (by decide) ?_
      refine gx_icmp_ne 50 dX9_throwItem_45 (by decide) (fun _ => ?_) (fun _ => ?_)
      · exact gx_sub (gX9_throwItem_50 k26 hk26 v0 v1 v2 h8) (And.intro rfl (And.intro rfl (And.intro rfl True.intro)))
      · refine gx_iconst (1 : Int32) dX9_throwItem_48 (by decide) ?_
        exact gx_zret dX9_throwItem_49 rfl
set_option maxRecDepth 100000 in
set_option maxHeartbeats 4000000 in
theorem gX9_throwItem_26 {E : gx_Env} {d : Nat}  : ∀ (n : Nat) (v0 : Nat) (v1 : Int32) (v2 : Int32) (h : gx_H), gx_G E RX9 cX9_throwItem 3 (some .boolean) false (d + 4) 0 0 26 [some (.ref v0), some (.int v1), some (.int v2)] [] h (fun x : Int32 => some (.int x)) (fX9_throwItem_26 n v0 v1 v2 h) := by
  intro n
  induction n with
  | zero => intro v0 v1 v2 h; exact gx_none
  | succ n ih => exact gbX9_throwItem_26  (fX9_throwItem_26  n) ih
set_option maxRecDepth 100000 in
set_option maxHeartbeats 4000000 in
theorem geX9_throwItem {E : gx_Env} {d : Nat} (v0 : Nat) (h : gx_H) : gx_G E RX9 cX9_throwItem 3 (some .boolean) false (d + 4) 0 0 0 [some (.ref v0), none, none] [] h (fun x : Int32 => some (.int x)) (fX9_throwItem v0 h) := by
  unfold fX9_throwItem
  refine gx_bind fun _ _ => ?_
  refine gx_aload_n 0 dX9_throwItem_0 rfl rfl ?_
  refine gx_iconst (0 : Int32) dX9_throwItem_1 (by decide) ?_
  refine gx_aload_n 0 dX9_throwItem_2 rfl rfl ?_
  refine gx_getR kf_RX9_18 dX9_throwItem_3 (fun a1 => ?_)
  refine gx_getI kf_RX9_104 dX9_throwItem_6 (fun x2 => ?_)
  refine gx_iconst (1 : Int32) dX9_throwItem_9 (by decide) ?_
  refine gx_isub dX9_throwItem_10 ?_
  refine gx_callV (ci := 7) (bc := 0) (bs := 0) (mc := 0) (ms := 0) (em' := (fun x : Int32 => some (.int x))) [.int (0 : Int32), .int (x2 - (1 : Int32))] kc_RX9_61 rfl dX9_throwItem_11 rfl rfl (gx_w8 rfl) (fun x q => (gx_isO_of (by unfold fX9_nextNumber at q; exact q)).2) (fun _ _ q => okX9_nextNumber d q) (fun x4 h3 => ?_)
  refine gx_if_ne 19 dX9_throwItem_14 (by decide) (fun _ => ?_) (fun _ => ?_)
  · refine gx_aload_n 0 dX9_throwItem_19 rfl rfl ?_
    refine gx_getI kf_RX9_42 dX9_throwItem_20 (fun x5 => ?_)
    refine gx_istore_n 1 [some (.ref v0), some (.int x5), none] dX9_throwItem_23 rfl (by decide) rfl ?_
    refine gx_iconst (0 : Int32) dX9_throwItem_24 (by decide) ?_
    refine gx_istore_n 2 [some (.ref v0), some (.int x5), some (.int (0 : Int32))] dX9_throwItem_25 rfl (by decide) rfl ?_
    exact gx_sub (gX9_throwItem_26 gx_N v0 x5 (0 : Int32) h3) (And.intro rfl (And.intro rfl (And.intro rfl True.intro)))
  · refine gx_iconst (0 : Int32) dX9_throwItem_17 (by decide) ?_
    exact gx_zret dX9_throwItem_18 rfl
theorem okX9_throwItem {E : gx_Env} (d : Nat) {v0 : Nat} {h : gx_H} {r : Int32} {h1 : gx_H} (q : fX9_throwItem v0 h = some (r, h1)) : gx_M E yX9_throwItem cX9_throwItem 3 (some .boolean) (d + 4) 0 0 [.ref v0] h ((fun x : Int32 => some (.int x)) r) h1 := gx_meth (y := yX9_throwItem) (cc := cX9_throwItem) (nL := 3) (em := (fun x : Int32 => some (.int x))) (ini := false) [.ref v0] (by decide) (by simp [gx_sl]) (fun q => by cases q) (geX9_throwItem v0 h) q
theorem dX9_laterItem_0 : decode cX9_laterItem 0 = .ok (.aload_n 0, 1) := by decide +kernel
theorem dX9_laterItem_1 : decode cX9_laterItem 1 = .ok (.ldc 72, 2) := by decide +kernel
theorem dX9_laterItem_3 : decode cX9_laterItem 3 = .ok (.invokevirtual 57, 3) := by decide +kernel
theorem dX9_laterItem_6 : decode cX9_laterItem 6 = .ok (.ifCond .eq 8, 3) := by decide +kernel
theorem dX9_laterItem_9 : decode cX9_laterItem 9 = .ok (.aload_n 0, 1) := by decide +kernel
theorem dX9_laterItem_10 : decode cX9_laterItem 10 = .ok (.invokevirtual 74, 3) := by decide +kernel
theorem dX9_laterItem_13 : decode cX9_laterItem 13 = .ok (.ireturn, 1) := by decide +kernel
theorem dX9_laterItem_14 : decode cX9_laterItem 14 = .ok (.aload_n 0, 1) := by decide +kernel
theorem dX9_laterItem_15 : decode cX9_laterItem 15 = .ok (.ldc 77, 2) := by decide +kernel
theorem dX9_laterItem_17 : decode cX9_laterItem 17 = .ok (.invokevirtual 57, 3) := by decide +kernel
theorem dX9_laterItem_20 : decode cX9_laterItem 20 = .ok (.ifCond .eq 8, 3) := by decide +kernel
theorem dX9_laterItem_23 : decode cX9_laterItem 23 = .ok (.aload_n 0, 1) := by decide +kernel
theorem dX9_laterItem_24 : decode cX9_laterItem 24 = .ok (.invokevirtual 79, 3) := by decide +kernel
theorem dX9_laterItem_27 : decode cX9_laterItem 27 = .ok (.ireturn, 1) := by decide +kernel
theorem dX9_laterItem_28 : decode cX9_laterItem 28 = .ok (.aload_n 0, 1) := by decide +kernel
theorem dX9_laterItem_29 : decode cX9_laterItem 29 = .ok (.ldc 82, 2) := by decide +kernel
theorem dX9_laterItem_31 : decode cX9_laterItem 31 = .ok (.invokevirtual 57, 3) := by decide +kernel
theorem dX9_laterItem_34 : decode cX9_laterItem 34 = .ok (.ifCond .eq 8, 3) := by decide +kernel
theorem dX9_laterItem_37 : decode cX9_laterItem 37 = .ok (.aload_n 0, 1) := by decide +kernel
theorem dX9_laterItem_38 : decode cX9_laterItem 38 = .ok (.invokevirtual 84, 3) := by decide +kernel
theorem dX9_laterItem_41 : decode cX9_laterItem 41 = .ok (.ireturn, 1) := by decide +kernel
theorem dX9_laterItem_42 : decode cX9_laterItem 42 = .ok (.aload_n 0, 1) := by decide +kernel
theorem dX9_laterItem_43 : decode cX9_laterItem 43 = .ok (.ldc 87, 2) := by decide +kernel
theorem dX9_laterItem_45 : decode cX9_laterItem 45 = .ok (.invokevirtual 57, 3) := by decide +kernel
theorem dX9_laterItem_48 : decode cX9_laterItem 48 = .ok (.ifCond .eq 14, 3) := by decide +kernel
theorem dX9_laterItem_51 : decode cX9_laterItem 51 = .ok (.aload_n 0, 1) := by decide +kernel
theorem dX9_laterItem_52 : decode cX9_laterItem 52 = .ok (.invokevirtual 89, 3) := by decide +kernel
theorem dX9_laterItem_55 : decode cX9_laterItem 55 = .ok (.ifCond .eq 7, 3) := by decide +kernel
theorem dX9_laterItem_58 : decode cX9_laterItem 58 = .ok (.iconst 1, 1) := by decide +kernel
theorem dX9_laterItem_59 : decode cX9_laterItem 59 = .ok (.goto 4, 3) := by decide +kernel
theorem dX9_laterItem_62 : decode cX9_laterItem 62 = .ok (.iconst 0, 1) := by decide +kernel
theorem dX9_laterItem_63 : decode cX9_laterItem 63 = .ok (.ireturn, 1) := by decide +kernel
def fX9_laterItem_63 (s0 : Int32) (h : gx_H) : Option (Int32 × gx_H) :=
  gx_ret .boolean s0 h
def fX9_laterItem_62 (h : gx_H) : Option (Int32 × gx_H) :=
  fX9_laterItem_63 (0 : Int32) h
def fX9_laterItem (v0 : Nat) (h : gx_H) : Option (Int32 × gx_H) :=
  (gx_isO h v0 7).bind fun _ =>
  gx_bd (fX9_isWord v0 1 h) fun x2 h1 =>
  if x2 = 0 then
    gx_bd (fX9_isWord v0 2 h1) fun x4 h3 =>
    if x4 = 0 then
      gx_bd (fX9_isWord v0 3 h3) fun x6 h5 =>
      if x6 = 0 then
        gx_bd (fX9_isWord v0 4 h5) fun x8 h7 =>
        if x8 = 0 then
          fX9_laterItem_62 h7
        else
          gx_bd (fX9_throwItem v0 h7) fun x10 h9 =>
          if x10 = 0 then
            fX9_laterItem_62 h9
          else
            fX9_laterItem_63 (1 : Int32) h9
      else
        gx_bd (fX9_setItem v0 h5) fun x12 h11 =>
        gx_ret .boolean x12 h11
    else
      gx_bd (fX9_playerItem v0 h3) fun x14 h13 =>
      gx_ret .boolean x14 h13
  else
    gx_bd (fX9_linkItem v0 h1) fun x16 h15 =>
    gx_ret .boolean x16 h15
set_option maxRecDepth 100000 in
set_option maxHeartbeats 4000000 in
theorem gX9_laterItem_63 {E : gx_Env} {d : Nat}  : ∀ (s0 : Int32) (h : gx_H), gx_G E RX9 cX9_laterItem 1 (some .boolean) false (d + 5) 0 0 63 [none] [.int s0] h (fun x : Int32 => some (.int x)) (fX9_laterItem_63 s0 h) := by
  intro s0 h
  unfold fX9_laterItem_63
  exact gx_zret dX9_laterItem_63 rfl
set_option maxRecDepth 100000 in
set_option maxHeartbeats 4000000 in
theorem gX9_laterItem_62 {E : gx_Env} {d : Nat}  : ∀  (h : gx_H), gx_G E RX9 cX9_laterItem 1 (some .boolean) false (d + 5) 0 0 62 [none] [] h (fun x : Int32 => some (.int x)) (fX9_laterItem_62 h) := by
  intro  h
  unfold fX9_laterItem_62
  refine gx_iconst (0 : Int32) dX9_laterItem_62 (by decide) ?_
  exact gx_sub (gX9_laterItem_63 (0 : Int32) h) True.intro
set_option maxRecDepth 100000 in
set_option maxHeartbeats 4000000 in
theorem geX9_laterItem {E : gx_Env} {d : Nat} (v0 : Nat) (h : gx_H) : gx_G E RX9 cX9_laterItem 1 (some .boolean) false (d + 5) 0 0 0 [some (.ref v0)] [] h (fun x : Int32 => some (.int x)) (fX9_laterItem v0 h) := by
  unfold fX9_laterItem
  refine gx_bind fun _ _ => ?_
  refine gx_aload_n 0 dX9_laterItem_0 rfl rfl ?_
  refine gx_ldcS (i := 1) (by decide) rfl rfl dX9_laterItem_1 ?_
  refine gx_callV (ci := 7) (bc := 0) (bs := 0) (mc := 0) (ms := 0) (em' := (fun x : Int32 => some (.int x))) [.retAddr 1] kc_RX9_57 rfl dX9_laterItem_3 rfl rfl (gx_w8 rfl) (fun x q => (gx_isO_of (by unfold fX9_isWord at q; exact q)).2) (fun _ _ q => okX9_isWord d q) (fun x2 h1 => ?_)
  refine gx_if_eq 14 dX9_laterItem_6 (by decide) (fun _ => ?_) (fun _ => ?_)
  · refine gx_aload_n 0 dX9_laterItem_14 rfl rfl ?_
    refine gx_ldcS (i := 2) (by decide) rfl rfl dX9_laterItem_15 ?_
    refine gx_callV (ci := 7) (bc := 0) (bs := 0) (mc := 0) (ms := 0) (em' := (fun x : Int32 => some (.int x))) [.retAddr 2] kc_RX9_57 rfl dX9_laterItem_17 rfl rfl (gx_w8 rfl) (fun x q => (gx_isO_of (by unfold fX9_isWord at q; exact q)).2) (fun _ _ q => okX9_isWord d q) (fun x4 h3 => ?_)
    refine gx_if_eq 28 dX9_laterItem_20 (by decide) (fun _ => ?_) (fun _ => ?_)
    · refine gx_aload_n 0 dX9_laterItem_28 rfl rfl ?_
      refine gx_ldcS (i := 3) (by decide) rfl rfl dX9_laterItem_29 ?_
      refine gx_callV (ci := 7) (bc := 0) (bs := 0) (mc := 0) (ms := 0) (em' := (fun x : Int32 => some (.int x))) [.retAddr 3] kc_RX9_57 rfl dX9_laterItem_31 rfl rfl (gx_w8 rfl) (fun x q => (gx_isO_of (by unfold fX9_isWord at q; exact q)).2) (fun _ _ q => okX9_isWord d q) (fun x6 h5 => ?_)
      refine gx_if_eq 42 dX9_laterItem_34 (by decide) (fun _ => ?_) (fun _ => ?_)
      · refine gx_aload_n 0 dX9_laterItem_42 rfl rfl ?_
        refine gx_ldcS (i := 4) (by decide) rfl rfl dX9_laterItem_43 ?_
        refine gx_callV (ci := 7) (bc := 0) (bs := 0) (mc := 0) (ms := 0) (em' := (fun x : Int32 => some (.int x))) [.retAddr 4] kc_RX9_57 rfl dX9_laterItem_45 rfl rfl (gx_w8 rfl) (fun x q => (gx_isO_of (by unfold fX9_isWord at q; exact q)).2) (fun _ _ q => okX9_isWord d q) (fun x8 h7 => ?_)
        refine gx_if_eq 62 dX9_laterItem_48 (by decide) (fun _ => ?_) (fun _ => ?_)
        · exact gx_sub (gX9_laterItem_62 h7) True.intro
        · refine gx_aload_n 0 dX9_laterItem_51 rfl rfl ?_
          refine gx_callV (ci := 7) (bc := 0) (bs := 0) (mc := 0) (ms := 0) (em' := (fun x : Int32 => some (.int x))) [] kc_RX9_89 rfl dX9_laterItem_52 rfl rfl (gx_w8 rfl) (fun x q => (gx_isO_of (by unfold fX9_throwItem at q; exact q)).2) (fun _ _ q => okX9_throwItem d q) (fun x10 h9 => ?_)
          refine gx_if_eq 62 dX9_laterItem_55 (by decide) (fun _ => ?_) (fun _ => ?_)
          · exact gx_sub (gX9_laterItem_62 h9) True.intro
          · refine gx_iconst (1 : Int32) dX9_laterItem_58 (by decide) ?_
            refine gx_goto 63 dX9_laterItem_59 (by decide) ?_
            exact gx_sub (gX9_laterItem_63 (1 : Int32) h9) True.intro
      · refine gx_aload_n 0 dX9_laterItem_37 rfl rfl ?_
        refine gx_callV (ci := 7) (bc := 0) (bs := 0) (mc := 0) (ms := 0) (em' := (fun x : Int32 => some (.int x))) [] kc_RX9_84 rfl dX9_laterItem_38 rfl rfl (gx_w8 rfl) (fun x q => (gx_isO_of (by unfold fX9_setItem at q; exact q)).2) (fun _ _ q => okX9_setItem d q) (fun x12 h11 => ?_)
        exact gx_zret dX9_laterItem_41 rfl
    · refine gx_aload_n 0 dX9_laterItem_23 rfl rfl ?_
      refine gx_callV (ci := 7) (bc := 0) (bs := 0) (mc := 0) (ms := 0) (em' := (fun x : Int32 => some (.int x))) [] kc_RX9_79 rfl dX9_laterItem_24 rfl rfl (gx_w8 rfl) (fun x q => (gx_isO_of (by unfold fX9_playerItem at q; exact q)).2) (fun _ _ q => okX9_playerItem d q) (fun x14 h13 => ?_)
      exact gx_zret dX9_laterItem_27 rfl
  · refine gx_aload_n 0 dX9_laterItem_9 rfl rfl ?_
    refine gx_callV (ci := 7) (bc := 0) (bs := 0) (mc := 0) (ms := 0) (em' := (fun x : Int32 => some (.int x))) [] kc_RX9_74 rfl dX9_laterItem_10 rfl rfl (gx_w8 rfl) (fun x q => (gx_isO_of (by unfold fX9_linkItem at q; exact q)).2) (fun _ _ q => okX9_linkItem d q) (fun x16 h15 => ?_)
    exact gx_zret dX9_laterItem_13 rfl
theorem okX9_laterItem {E : gx_Env} (d : Nat) {v0 : Nat} {h : gx_H} {r : Int32} {h1 : gx_H} (q : fX9_laterItem v0 h = some (r, h1)) : gx_M E yX9_laterItem cX9_laterItem 1 (some .boolean) (d + 5) 0 0 [.ref v0] h ((fun x : Int32 => some (.int x)) r) h1 := gx_meth (y := yX9_laterItem) (cc := cX9_laterItem) (nL := 1) (em := (fun x : Int32 => some (.int x))) (ini := false) [.ref v0] (by decide) (by simp [gx_sl]) (fun q => by cases q) (geX9_laterItem v0 h) q
theorem dX9_readItems_0 : decode cX9_readItems 0 = .ok (.aload_n 0, 1) := by decide +kernel
theorem dX9_readItems_1 : decode cX9_readItems 1 = .ok (.iconst 0, 1) := by decide +kernel
theorem dX9_readItems_2 : decode cX9_readItems 2 = .ok (.putfield 39, 3) := by decide +kernel
theorem dX9_readItems_5 : decode cX9_readItems 5 = .ok (.aload_n 0, 1) := by decide +kernel
theorem dX9_readItems_6 : decode cX9_readItems 6 = .ok (.invokevirtual 45, 3) := by decide +kernel
theorem dX9_readItems_9 : decode cX9_readItems 9 = .ok (.aload_n 0, 1) := by decide +kernel
theorem dX9_readItems_10 : decode cX9_readItems 10 = .ok (.invokevirtual 48, 3) := by decide +kernel
theorem dX9_readItems_13 : decode cX9_readItems 13 = .ok (.ifCond .ne 5, 3) := by decide +kernel
theorem dX9_readItems_16 : decode cX9_readItems 16 = .ok (.iconst (-1), 1) := by decide +kernel
theorem dX9_readItems_17 : decode cX9_readItems 17 = .ok (.ireturn, 1) := by decide +kernel
theorem dX9_readItems_18 : decode cX9_readItems 18 = .ok (.aload_n 0, 1) := by decide +kernel
theorem dX9_readItems_19 : decode cX9_readItems 19 = .ok (.invokevirtual 45, 3) := by decide +kernel
theorem dX9_readItems_22 : decode cX9_readItems 22 = .ok (.iconst 1, 1) := by decide +kernel
theorem dX9_readItems_23 : decode cX9_readItems 23 = .ok (.istore_n 1, 1) := by decide +kernel
theorem dX9_readItems_24 : decode cX9_readItems 24 = .ok (.aload_n 0, 1) := by decide +kernel
theorem dX9_readItems_25 : decode cX9_readItems 25 = .ok (.getfield 33, 3) := by decide +kernel
theorem dX9_readItems_28 : decode cX9_readItems 28 = .ok (.ifCond .eq 29, 3) := by decide +kernel
theorem dX9_readItems_31 : decode cX9_readItems 31 = .ok (.iload_n 1, 1) := by decide +kernel
theorem dX9_readItems_32 : decode cX9_readItems 32 = .ok (.sipush 150, 3) := by decide +kernel
theorem dX9_readItems_35 : decode cX9_readItems 35 = .ok (.if_icmp .gt 22, 3) := by decide +kernel
theorem dX9_readItems_38 : decode cX9_readItems 38 = .ok (.aload_n 0, 1) := by decide +kernel
theorem dX9_readItems_39 : decode cX9_readItems 39 = .ok (.invokevirtual 52, 3) := by decide +kernel
theorem dX9_readItems_42 : decode cX9_readItems 42 = .ok (.ifCond .ne 5, 3) := by decide +kernel
theorem dX9_readItems_45 : decode cX9_readItems 45 = .ok (.iconst (-1), 1) := by decide +kernel
theorem dX9_readItems_46 : decode cX9_readItems 46 = .ok (.ireturn, 1) := by decide +kernel
theorem dX9_readItems_47 : decode cX9_readItems 47 = .ok (.aload_n 0, 1) := by decide +kernel
theorem dX9_readItems_48 : decode cX9_readItems 48 = .ok (.invokevirtual 45, 3) := by decide +kernel
theorem dX9_readItems_51 : decode cX9_readItems 51 = .ok (.iinc 1 1, 3) := by decide +kernel
theorem dX9_readItems_54 : decode cX9_readItems 54 = .ok (.goto (-30), 3) := by decide +kernel
theorem dX9_readItems_57 : decode cX9_readItems 57 = .ok (.iload_n 1, 1) := by decide +kernel
theorem dX9_readItems_58 : decode cX9_readItems 58 = .ok (.ireturn, 1) := by decide +kernel
def fX9_readItems_57 (v1 : Int32) (h : gx_H) : Option (Int32 × gx_H) :=
  some (v1, h)
def bX9_readItems_24 (k24 : Nat → Int32 → gx_H → Option (Int32 × gx_H)) (v0 : Nat) (v1 : Int32) (h : gx_H) : Option (Int32 × gx_H) :=
  (gx_fI h v0 7 4).bind fun x8 =>
  if x8 = 0 then
    fX9_readItems_57 v1 h
  else
    if (150 : Int32) < v1 then
      fX9_readItems_57 v1 h
    else
      gx_bd (fX9_laterItem v0 h) fun x10 h9 =>
      if x10 = 0 then
        some ((-1 : Int32), h9)
      else
        gx_bd (fX9_nextToken v0 h9) fun u12 h11 =>
        k24 v0 (v1 + (1 : Int32)) h11
def fX9_readItems_24 : Nat → Nat → Int32 → gx_H → Option (Int32 × gx_H)
  | 0 => fun _ _ _ => none
  | n + 1 => bX9_readItems_24 (fX9_readItems_24 n)
def fX9_readItems (v0 : Nat) (h : gx_H) : Option (Int32 × gx_H) :=
  (gx_isO h v0 7).bind fun _ =>
  (gx_pF h v0 7 6 (.int (0 : Int32))).bind fun h1 =>
  gx_bd (fX9_nextToken v0 h1) fun u3 h2 =>
  gx_bd (fX9_boardItem v0 h2) fun x5 h4 =>
  if x5 = 0 then
    some ((-1 : Int32), h4)
  else
    gx_bd (fX9_nextToken v0 h4) fun u7 h6 =>
    fX9_readItems_24 gx_N v0 (1 : Int32) h6
set_option maxRecDepth 100000 in
set_option maxHeartbeats 4000000 in
theorem gX9_readItems_57 {E : gx_Env} {d : Nat}  : ∀ (v1 : Int32) (h : gx_H), gx_G E RX9 cX9_readItems 2 (some .int) false (d + 6) 0 0 57 [none, some (.int v1)] [] h (fun x : Int32 => some (.int x)) (fX9_readItems_57 v1 h) := by
  intro v1 h
  unfold fX9_readItems_57
  refine gx_iload_n 1 dX9_readItems_57 rfl rfl ?_
  exact gx_iret dX9_readItems_58 rfl
set_option maxRecDepth 100000 in
set_option maxHeartbeats 4000000 in
theorem gbX9_readItems_24 {E : gx_Env} {d : Nat}  (k24 : Nat → Int32 → gx_H → Option (Int32 × gx_H)) (hk24 : ∀ (v0 : Nat) (v1 : Int32) (h : gx_H), gx_G E RX9 cX9_readItems 2 (some .int) false (d + 6) 0 0 24 [some (.ref v0), some (.int v1)] [] h (fun x : Int32 => some (.int x)) (k24 v0 v1 h))  : ∀ (v0 : Nat) (v1 : Int32) (h : gx_H), gx_G E RX9 cX9_readItems 2 (some .int) false (d + 6) 0 0 24 [some (.ref v0), some (.int v1)] [] h (fun x : Int32 => some (.int x)) (bX9_readItems_24 k24 v0 v1 h) := by
  intro v0 v1 h
  unfold bX9_readItems_24
  refine gx_aload_n 0 dX9_readItems_24 rfl rfl ?_
  refine gx_getI kf_RX9_33 dX9_readItems_25 (fun x8 => ?_)
  refine gx_if_eq 57 dX9_readItems_28 (by decide) (fun _ => ?_) (fun _ => ?_)
  · exact gx_sub (gX9_readItems_57 v1 h) (And.intro rfl True.intro)
  · refine gx_iload_n 1 dX9_readItems_31 rfl rfl ?_
    refine gx_sipush (150 : Int32) dX9_readItems_32 (by decide) ?_
    refine gx_icmp_gt 57 dX9_readItems_35 (by decide) (fun _ => ?_) (fun _ => ?_)
    · exact gx_sub (gX9_readItems_57 v1 h) (And.intro rfl True.intro)
    · refine gx_aload_n 0 dX9_readItems_38 rfl rfl ?_
      refine gx_callV (ci := 7) (bc := 0) (bs := 0) (mc := 0) (ms := 0) (em' := (fun x : Int32 => some (.int x))) [] kc_RX9_52 rfl dX9_readItems_39 rfl rfl (gx_w8 rfl) (fun x q => (gx_isO_of (by unfold fX9_laterItem at q; exact q)).2) (fun _ _ q => okX9_laterItem d q) (fun x10 h9 => ?_)
      refine gx_if_ne 47 dX9_readItems_42 (by decide) (fun _ => ?_) (fun _ => ?_)
      · refine gx_aload_n 0 dX9_readItems_47 rfl rfl ?_
        refine gx_callV (ci := 7) (bc := 0) (bs := 0) (mc := 0) (ms := 0) (em' := (fun _ : Unit => none)) [] kc_RX9_45 rfl dX9_readItems_48 rfl rfl (gx_w8 rfl) (fun x q => (gx_isO_of (by unfold fX9_nextToken at q; exact q)).2) (fun _ _ q => okX9_nextToken (d + 3) q) (fun u12 h11 => ?_)
        refine gx_iinc (1 : Int32) [some (.ref v0), some (.int (v1 + (1 : Int32)))] dX9_readItems_51 rfl (by decide) (by decide) rfl ?_
        refine gx_goto 24 dX9_readItems_54 (by decide) ?_
        exact gx_sub (hk24 v0 (v1 + (1 : Int32)) h11) (And.intro rfl (And.intro rfl True.intro))
      · refine gx_iconst (-1 : Int32) dX9_readItems_45 (by decide) ?_
        exact gx_iret dX9_readItems_46 rfl
set_option maxRecDepth 100000 in
set_option maxHeartbeats 4000000 in
theorem gX9_readItems_24 {E : gx_Env} {d : Nat}  : ∀ (n : Nat) (v0 : Nat) (v1 : Int32) (h : gx_H), gx_G E RX9 cX9_readItems 2 (some .int) false (d + 6) 0 0 24 [some (.ref v0), some (.int v1)] [] h (fun x : Int32 => some (.int x)) (fX9_readItems_24 n v0 v1 h) := by
  intro n
  induction n with
  | zero => intro v0 v1 h; exact gx_none
  | succ n ih => exact gbX9_readItems_24  (fX9_readItems_24  n) ih
set_option maxRecDepth 100000 in
set_option maxHeartbeats 4000000 in
theorem geX9_readItems {E : gx_Env} {d : Nat} (v0 : Nat) (h : gx_H) : gx_G E RX9 cX9_readItems 2 (some .int) false (d + 6) 0 0 0 [some (.ref v0), none] [] h (fun x : Int32 => some (.int x)) (fX9_readItems v0 h) := by
  unfold fX9_readItems
  refine gx_bind fun _ _ => ?_
  refine gx_aload_n 0 dX9_readItems_0 rfl rfl ?_
  refine gx_iconst (0 : Int32) dX9_readItems_1 (by decide) ?_
  refine gx_putI kp_RX9_39 (fun q => by cases q) dX9_readItems_2 (fun h1 => ?_)
  refine gx_aload_n 0 dX9_readItems_5 rfl rfl ?_
  refine gx_callV (ci := 7) (bc := 0) (bs := 0) (mc := 0) (ms := 0) (em' := (fun _ : Unit => none)) [] kc_RX9_45 rfl dX9_readItems_6 rfl rfl (gx_w8 rfl) (fun x q => (gx_isO_of (by unfold fX9_nextToken at q; exact q)).2) (fun _ _ q => okX9_nextToken (d + 3) q) (fun u3 h2 => ?_)
  refine gx_aload_n 0 dX9_readItems_9 rfl rfl ?_
  refine gx_callV (ci := 7) (bc := 0) (bs := 0) (mc := 0) (ms := 0) (em' := (fun x : Int32 => some (.int x))) [] kc_RX9_48 rfl dX9_readItems_10 rfl rfl (gx_w8 rfl) (fun x q => (gx_isO_of (by unfold fX9_boardItem at q; exact q)).2) (fun _ _ q => okX9_boardItem d q) (fun x5 h4 => ?_)
  refine gx_if_ne 18 dX9_readItems_13 (by decide) (fun _ => ?_) (fun _ => ?_)
  · refine gx_aload_n 0 dX9_readItems_18 rfl rfl ?_
    refine gx_callV (ci := 7) (bc := 0) (bs := 0) (mc := 0) (ms := 0) (em' := (fun _ : Unit => none)) [] kc_RX9_45 rfl dX9_readItems_19 rfl rfl (gx_w8 rfl) (fun x q => (gx_isO_of (by unfold fX9_nextToken at q; exact q)).2) (fun _ _ q => okX9_nextToken (d + 3) q) (fun u7 h6 => ?_)
    refine gx_iconst (1 : Int32) dX9_readItems_22 (by decide) ?_
    refine gx_istore_n 1 [some (.ref v0), some (.int (1 : Int32))] dX9_readItems_23 rfl (by decide) rfl ?_
    exact gx_sub (gX9_readItems_24 gx_N v0 (1 : Int32) h6) (And.intro rfl (And.intro rfl True.intro))
  · refine gx_iconst (-1 : Int32) dX9_readItems_16 (by decide) ?_
    exact gx_iret dX9_readItems_17 rfl
theorem okX9_readItems {E : gx_Env} (d : Nat) {v0 : Nat} {h : gx_H} {r : Int32} {h1 : gx_H} (q : fX9_readItems v0 h = some (r, h1)) : gx_M E yX9_readItems cX9_readItems 2 (some .int) (d + 6) 0 0 [.ref v0] h ((fun x : Int32 => some (.int x)) r) h1 := gx_meth (y := yX9_readItems) (cc := cX9_readItems) (nL := 2) (em := (fun x : Int32 => some (.int x))) (ini := false) [.ref v0] (by decide) (by simp [gx_sl]) (fun q => by cases q) (geX9_readItems v0 h) q
