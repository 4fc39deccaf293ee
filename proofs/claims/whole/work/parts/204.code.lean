theorem dX10_init_0 : decode cX10_init 0 = .ok (.aload_n 0, 1) := by decide +kernel
theorem dX10_init_1 : decode cX10_init 1 = .ok (.invokespecial 1, 3) := by decide +kernel
theorem dX10_init_4 : decode cX10_init 4 = .ok (.aload_n 0, 1) := by decide +kernel
theorem dX10_init_5 : decode cX10_init 5 = .ok (.new 7, 3) := by decide +kernel
theorem dX10_init_8 : decode cX10_init 8 = .ok (.dup, 1) := by decide +kernel
theorem dX10_init_9 : decode cX10_init 9 = .ok (.invokespecial 9, 3) := by decide +kernel
theorem dX10_init_12 : decode cX10_init 12 = .ok (.putfield 10, 3) := by decide +kernel
theorem dX10_init_15 : decode cX10_init 15 = .ok (.aload_n 0, 1) := by decide +kernel
theorem dX10_init_16 : decode cX10_init 16 = .ok (.iconst 2, 1) := by decide +kernel
theorem dX10_init_17 : decode cX10_init 17 = .ok (.anewarray 7, 3) := by decide +kernel
theorem dX10_init_20 : decode cX10_init 20 = .ok (.dup, 1) := by decide +kernel
theorem dX10_init_21 : decode cX10_init 21 = .ok (.iconst 0, 1) := by decide +kernel
theorem dX10_init_22 : decode cX10_init 22 = .ok (.new 7, 3) := by decide +kernel
theorem dX10_init_25 : decode cX10_init 25 = .ok (.dup, 1) := by decide +kernel
theorem dX10_init_26 : decode cX10_init 26 = .ok (.invokespecial 9, 3) := by decide +kernel
theorem dX10_init_29 : decode cX10_init 29 = .ok (.aastore, 1) := by decide +kernel
theorem dX10_init_30 : decode cX10_init 30 = .ok (.dup, 1) := by decide +kernel
theorem dX10_init_31 : decode cX10_init 31 = .ok (.iconst 1, 1) := by decide +kernel
theorem dX10_init_32 : decode cX10_init 32 = .ok (.new 7, 3) := by decide +kernel
theorem dX10_init_35 : decode cX10_init 35 = .ok (.dup, 1) := by decide +kernel
theorem dX10_init_36 : decode cX10_init 36 = .ok (.invokespecial 9, 3) := by decide +kernel
theorem dX10_init_39 : decode cX10_init 39 = .ok (.aastore, 1) := by decide +kernel
theorem dX10_init_40 : decode cX10_init 40 = .ok (.putfield 16, 3) := by decide +kernel
theorem dX10_init_43 : decode cX10_init 43 = .ok (.aload_n 0, 1) := by decide +kernel
theorem dX10_init_44 : decode cX10_init 44 = .ok (.iconst 2, 1) := by decide +kernel
theorem dX10_init_45 : decode cX10_init 45 = .ok (.newarray .boolean, 2) := by decide +kernel
theorem dX10_init_47 : decode cX10_init 47 = .ok (.putfield 20, 3) := by decide +kernel
theorem dX10_init_50 : decode cX10_init 50 = .ok (.aload_n 0, 1) := by decide +kernel
theorem dX10_init_51 : decode cX10_init 51 = .ok (.new 24, 3) := by decide +kernel
theorem dX10_init_54 : decode cX10_init 54 = .ok (.dup, 1) := by decide +kernel
theorem dX10_init_55 : decode cX10_init 55 = .ok (.invokespecial 26, 3) := by decide +kernel
theorem dX10_init_58 : decode cX10_init 58 = .ok (.putfield 27, 3) := by decide +kernel
theorem dX10_init_61 : decode cX10_init 61 = .ok (.aload_n 0, 1) := by decide +kernel
theorem dX10_init_62 : decode cX10_init 62 = .ok (.new 31, 3) := by decide +kernel
theorem dX10_init_65 : decode cX10_init 65 = .ok (.dup, 1) := by decide +kernel
theorem dX10_init_66 : decode cX10_init 66 = .ok (.invokespecial 33, 3) := by decide +kernel
theorem dX10_init_69 : decode cX10_init 69 = .ok (.putfield 34, 3) := by decide +kernel
theorem dX10_init_72 : decode cX10_init 72 = .ok (.aload_n 0, 1) := by decide +kernel
theorem dX10_init_73 : decode cX10_init 73 = .ok (.new 38, 3) := by decide +kernel
theorem dX10_init_76 : decode cX10_init 76 = .ok (.dup, 1) := by decide +kernel
theorem dX10_init_77 : decode cX10_init 77 = .ok (.invokespecial 40, 3) := by decide +kernel
theorem dX10_init_80 : decode cX10_init 80 = .ok (.putfield 41, 3) := by decide +kernel
theorem dX10_init_83 : decode cX10_init 83 = .ok (.aload_n 0, 1) := by decide +kernel
theorem dX10_init_84 : decode cX10_init 84 = .ok (.lconst 0, 1) := by decide +kernel
theorem dX10_init_85 : decode cX10_init 85 = .ok (.putfield 45, 3) := by decide +kernel
theorem dX10_init_88 : decode cX10_init 88 = .ok (.aload_n 0, 1) := by decide +kernel
theorem dX10_init_89 : decode cX10_init 89 = .ok (.lconst 1, 1) := by decide +kernel
theorem dX10_init_90 : decode cX10_init 90 = .ok (.putfield 49, 3) := by decide +kernel
theorem dX10_init_93 : decode cX10_init 93 = .ok (.aload_n 0, 1) := by decide +kernel
theorem dX10_init_94 : decode cX10_init 94 = .ok (.iconst 0, 1) := by decide +kernel
theorem dX10_init_95 : decode cX10_init 95 = .ok (.putfield 52, 3) := by decide +kernel
theorem dX10_init_98 : decode cX10_init 98 = .ok (.aload_n 0, 1) := by decide +kernel
theorem dX10_init_99 : decode cX10_init 99 = .ok (.iconst 0, 1) := by decide +kernel
theorem dX10_init_100 : decode cX10_init 100 = .ok (.putfield 56, 3) := by decide +kernel
theorem dX10_init_103 : decode cX10_init 103 = .ok (.aload_n 0, 1) := by decide +kernel
theorem dX10_init_104 : decode cX10_init 104 = .ok (.iconst 0, 1) := by decide +kernel
theorem dX10_init_105 : decode cX10_init 105 = .ok (.putfield 59, 3) := by decide +kernel
theorem dX10_init_108 : decode cX10_init 108 = .ok (.return_, 1) := by decide +kernel
def fX10_init (v0 : Nat) (h : gx_H) : Option (Unit × gx_H) :=
  gx_let (gx_new (.inr (1, [.null, .null, .null, .null])) h) fun h1 =>
  gx_bd (fX1_init h.1 h1) fun u3 h2 =>
  (gx_pF h2 v0 8 0 (.ref h.1)).bind fun h4 =>
  if (2 : Int32) < 0 ∨ 8 < ((2 : Int32)).toNatClampNeg then none else
  gx_let (gx_new (.inl (4, ((2 : Int32)).toNatClampNeg, .inr (.inr (.inr (.inr (fun _ => none)))))) h4) fun h5 =>
  gx_let (gx_new (.inr (1, [.null, .null, .null, .null])) h5) fun h6 =>
  gx_bd (fX1_init h5.1 h6) fun u8 h7 =>
  (gx_isO h7 h5.1 1).bind fun _ =>
  (gx_sR 4 h7 h4.1 (0 : Int32) h5.1).bind fun h9 =>
  gx_let (gx_new (.inr (1, [.null, .null, .null, .null])) h9) fun h10 =>
  gx_bd (fX1_init h9.1 h10) fun u12 h11 =>
  (gx_isO h11 h9.1 1).bind fun _ =>
  (gx_sR 4 h11 h4.1 (1 : Int32) h9.1).bind fun h13 =>
  (gx_pF h13 v0 8 1 (.ref h4.1)).bind fun h14 =>
  gx_let (gx_new (.inl (2, 2, .inl (fun _ => 0))) h14) fun h15 =>
  (gx_pF h15 v0 8 2 (.ref h14.1)).bind fun h16 =>
  gx_let (gx_new (.inr (7, [.int 0, .null, .null, .null, .int 0, .int 0, .int 0, .int 0])) h16) fun h17 =>
  gx_bd (fX9_init h16.1 h17) fun u19 h18 =>
  (gx_pF h18 v0 8 3 (.ref h16.1)).bind fun h20 =>
  gx_let (gx_new (.inr (4, [.null, .null, .null, .null, .null, .null, .int 0, .int 0])) h20) fun h21 =>
  gx_bd (fX5_init h20.1 h21) fun u23 h22 =>
  (gx_pF h22 v0 8 4 (.ref h20.1)).bind fun h24 =>
  gx_let (gx_new (.inr (2, [.null])) h24) fun h25 =>
  gx_bd (fX2_init h24.1 h25) fun u27 h26 =>
  (gx_pF h26 v0 8 5 (.ref h24.1)).bind fun h28 =>
  (gx_pF h28 v0 8 6 (.long (0 : Int64))).bind fun h29 =>
  (gx_pF h29 v0 8 7 (.long (1 : Int64))).bind fun h30 =>
  (gx_pF h30 v0 8 8 (.int (0 : Int32))).bind fun h31 =>
  (gx_pF h31 v0 8 9 (.int (0 : Int32))).bind fun h32 =>
  (gx_pF h32 v0 8 10 (.int (0 : Int32))).bind fun h33 =>
  some ((), h33)
set_option maxRecDepth 100000 in
set_option maxHeartbeats 4000000 in
theorem geX10_init {E : gx_Env} {d : Nat} (v0 : Nat) (h : gx_H) : gx_G E RX10 cX10_init 1 none true (d + 5) 128 945 0 [some (.ref v0)] [] h (fun _ : Unit => none) (fX10_init v0 h) := by
  unfold fX10_init
  refine gx_aload_n 0 dX10_init_0 rfl rfl ?_
  refine gx_obj kk_RX10_1 ko_i ko_c dX10_init_1 (by decide) ?_
  refine gx_aload_n 0 dX10_init_4 rfl rfl ?_
  refine gx_newO (bc := 127) (bs := 941) kn_RX10_7 rfl dX10_init_5 ?_
  refine gx_letG ?_
  generalize (gx_new (.inr (1, [.null, .null, .null, .null])) h) = h1
  refine gx_dup dX10_init_8 rfl ?_
  refine gx_callIN (bc := 98) (bs := 781) (mc := 29) (ms := 160) (em' := (fun _ : Unit => none)) [] kc_RX10_9 dX10_init_9 rfl rfl (gx_w8 rfl) (fun _ _ q => okX1_init d q) (fun u3 h2 => ?_)
  refine gx_putO kp_RX10_10 (fun _ => rfl) dX10_init_12 (fun h4 => ?_)
  refine gx_aload_n 0 dX10_init_15 rfl rfl ?_
  refine gx_iconst (2 : Int32) dX10_init_16 (by decide) ?_
  refine gx_newR4 (f := fun _ => none) (bc := 97) (bs := 773) 8 kk_RX10_7 dX10_init_17 (by decide) ?_
  refine gx_letG ?_
  generalize (gx_new (.inl (4, ((2 : Int32)).toNatClampNeg, .inr (.inr (.inr (.inr (fun _ => none)))))) h4) = h5
  refine gx_dup dX10_init_20 rfl ?_
  refine gx_iconst (0 : Int32) dX10_init_21 (by decide) ?_
  refine gx_newO (bc := 96) (bs := 769) kn_RX10_7 rfl dX10_init_22 ?_
  refine gx_letG ?_
  generalize (gx_new (.inr (1, [.null, .null, .null, .null])) h5) = h6
  refine gx_dup dX10_init_25 rfl ?_
  refine gx_callIN (bc := 67) (bs := 609) (mc := 29) (ms := 160) (em' := (fun _ : Unit => none)) [] kc_RX10_9 dX10_init_26 rfl rfl (gx_w8 rfl) (fun _ _ q => okX1_init d q) (fun u8 h7 => ?_)
  refine gx_aast4 dX10_init_29 (fun h9 => ?_)
  refine gx_dup dX10_init_30 rfl ?_
  refine gx_iconst (1 : Int32) dX10_init_31 (by decide) ?_
  refine gx_newO (bc := 66) (bs := 605) kn_RX10_7 rfl dX10_init_32 ?_
  refine gx_letG ?_
  generalize (gx_new (.inr (1, [.null, .null, .null, .null])) h9) = h10
  refine gx_dup dX10_init_35 rfl ?_
  refine gx_callIN (bc := 37) (bs := 445) (mc := 29) (ms := 160) (em' := (fun _ : Unit => none)) [] kc_RX10_9 dX10_init_36 rfl rfl (gx_w8 rfl) (fun _ _ q => okX1_init d q) (fun u12 h11 => ?_)
  refine gx_aast4 dX10_init_39 (fun h13 => ?_)
  refine gx_putA kp_RX10_16 (fun _ => rfl) dX10_init_40 (fun h14 => ?_)
  refine gx_aload_n 0 dX10_init_43 rfl rfl ?_
  refine gx_iconst (2 : Int32) dX10_init_44 (by decide) ?_
  refine gx_newA2 (bc := 36) (bs := 443) 2 ka_boolean dX10_init_45 (by decide) (by decide) (by decide) ?_
  refine gx_letG ?_
  generalize (gx_new (.inl (2, 2, .inl (fun _ => 0))) h14) = h15
  refine gx_putA kp_RX10_20 (fun _ => rfl) dX10_init_47 (fun h16 => ?_)
  refine gx_aload_n 0 dX10_init_50 rfl rfl ?_
  refine gx_newO (bc := 35) (bs := 435) kn_RX10_24 rfl dX10_init_51 ?_
  refine gx_letG ?_
  generalize (gx_new (.inr (7, [.int 0, .null, .null, .null, .int 0, .int 0, .int 0, .int 0])) h16) = h17
  refine gx_dup dX10_init_54 rfl ?_
  refine gx_callIN (bc := 25) (bs := 233) (mc := 10) (ms := 202) (em' := (fun _ : Unit => none)) [] kc_RX10_26 dX10_init_55 rfl rfl (gx_w8 rfl) (fun _ _ q => okX9_init (d + 2) q) (fun u19 h18 => ?_)
  refine gx_putO kp_RX10_27 (fun _ => rfl) dX10_init_58 (fun h20 => ?_)
  refine gx_aload_n 0 dX10_init_61 rfl rfl ?_
  refine gx_newO (bc := 24) (bs := 225) kn_RX10_31 rfl dX10_init_62 ?_
  refine gx_letG ?_
  generalize (gx_new (.inr (4, [.null, .null, .null, .null, .null, .null, .int 0, .int 0])) h20) = h21
  refine gx_dup dX10_init_65 rfl ?_
  refine gx_callIN (bc := 2) (bs := 7) (mc := 22) (ms := 218) (em' := (fun _ : Unit => none)) [] kc_RX10_33 dX10_init_66 rfl rfl (gx_w8 rfl) (fun _ _ q => okX5_init (d + 1) q) (fun u23 h22 => ?_)
  refine gx_putO kp_RX10_34 (fun _ => rfl) dX10_init_69 (fun h24 => ?_)
  refine gx_aload_n 0 dX10_init_72 rfl rfl ?_
  refine gx_newO (bc := 1) (bs := 6) kn_RX10_38 rfl dX10_init_73 ?_
  refine gx_letG ?_
  generalize (gx_new (.inr (2, [.null])) h24) = h25
  refine gx_dup dX10_init_76 rfl ?_
  refine gx_callIN (bc := 0) (bs := 0) (mc := 1) (ms := 6) (em' := (fun _ : Unit => none)) [] kc_RX10_40 dX10_init_77 rfl rfl (gx_w8 rfl) (fun _ _ q => okX2_init (d + 3) q) (fun u27 h26 => ?_)
  refine gx_putO kp_RX10_41 (fun _ => rfl) dX10_init_80 (fun h28 => ?_)
  refine gx_aload_n 0 dX10_init_83 rfl rfl ?_
  refine gx_lconst (0 : Int64) dX10_init_84 (by decide) ?_
  refine gx_putJ kp_RX10_45 (fun _ => rfl) dX10_init_85 (fun h29 => ?_)
  refine gx_aload_n 0 dX10_init_88 rfl rfl ?_
  refine gx_lconst (1 : Int64) dX10_init_89 (by decide) ?_
  refine gx_putJ kp_RX10_49 (fun _ => rfl) dX10_init_90 (fun h30 => ?_)
  refine gx_aload_n 0 dX10_init_93 rfl rfl ?_
  refine gx_iconst (0 : Int32) dX10_init_94 (by decide) ?_
  refine gx_putI kp_RX10_52 (fun _ => rfl) dX10_init_95 (fun h31 => ?_)
  refine gx_aload_n 0 dX10_init_98 rfl rfl ?_
  refine gx_iconst (0 : Int32) dX10_init_99 (by decide) ?_
  refine gx_putI kp_RX10_56 (fun _ => rfl) dX10_init_100 (fun h32 => ?_)
  refine gx_aload_n 0 dX10_init_103 rfl rfl ?_
  refine gx_iconst (0 : Int32) dX10_init_104 (by decide) ?_
  refine gx_putI kp_RX10_59 (fun _ => rfl) dX10_init_105 (fun h33 => ?_)
  exact gx_vret dX10_init_108 rfl
theorem okX10_init {E : gx_Env} (d : Nat) {v0 : Nat} {h : gx_H} {r : Unit} {h1 : gx_H} (q : fX10_init v0 h = some (r, h1)) : gx_M E yX10_init cX10_init 1 none (d + 5) 128 945 [.ref v0] h ((fun _ : Unit => none) r) h1 := gx_meth (y := yX10_init) (cc := cX10_init) (nL := 1) (em := (fun _ : Unit => none)) (ini := true) [.ref v0] (by decide) (by simp [gx_sl]) (fun _ => rfl) (geX10_init v0 h) q
theorem dX10_refuse_0 : decode cX10_refuse 0 = .ok (.iload_n 1, 1) := by decide +kernel
theorem dX10_refuse_1 : decode cX10_refuse 1 = .ok (.bipush (-4), 2) := by decide +kernel
theorem dX10_refuse_3 : decode cX10_refuse 3 = .ok (.if_icmp .ne 16, 3) := by decide +kernel
theorem dX10_refuse_6 : decode cX10_refuse 6 = .ok (.aload_n 0, 1) := by decide +kernel
theorem dX10_refuse_7 : decode cX10_refuse 7 = .ok (.dup, 1) := by decide +kernel
theorem dX10_refuse_8 : decode cX10_refuse 8 = .ok (.getfield 59, 3) := by decide +kernel
theorem dX10_refuse_11 : decode cX10_refuse 11 = .ok (.iconst 1, 1) := by decide +kernel
theorem dX10_refuse_12 : decode cX10_refuse 12 = .ok (.iadd, 1) := by decide +kernel
theorem dX10_refuse_13 : decode cX10_refuse 13 = .ok (.putfield 59, 3) := by decide +kernel
theorem dX10_refuse_16 : decode cX10_refuse 16 = .ok (.goto 32, 3) := by decide +kernel
theorem dX10_refuse_19 : decode cX10_refuse 19 = .ok (.iload_n 1, 1) := by decide +kernel
theorem dX10_refuse_20 : decode cX10_refuse 20 = .ok (.bipush (-3), 2) := by decide +kernel
theorem dX10_refuse_22 : decode cX10_refuse 22 = .ok (.if_icmp .ne 16, 3) := by decide +kernel
theorem dX10_refuse_25 : decode cX10_refuse 25 = .ok (.aload_n 0, 1) := by decide +kernel
theorem dX10_refuse_26 : decode cX10_refuse 26 = .ok (.dup, 1) := by decide +kernel
theorem dX10_refuse_27 : decode cX10_refuse 27 = .ok (.getfield 56, 3) := by decide +kernel
theorem dX10_refuse_30 : decode cX10_refuse 30 = .ok (.iconst 1, 1) := by decide +kernel
theorem dX10_refuse_31 : decode cX10_refuse 31 = .ok (.iadd, 1) := by decide +kernel
theorem dX10_refuse_32 : decode cX10_refuse 32 = .ok (.putfield 56, 3) := by decide +kernel
theorem dX10_refuse_35 : decode cX10_refuse 35 = .ok (.goto 13, 3) := by decide +kernel
theorem dX10_refuse_38 : decode cX10_refuse 38 = .ok (.aload_n 0, 1) := by decide +kernel
theorem dX10_refuse_39 : decode cX10_refuse 39 = .ok (.dup, 1) := by decide +kernel
theorem dX10_refuse_40 : decode cX10_refuse 40 = .ok (.getfield 52, 3) := by decide +kernel
theorem dX10_refuse_43 : decode cX10_refuse 43 = .ok (.iconst 1, 1) := by decide +kernel
theorem dX10_refuse_44 : decode cX10_refuse 44 = .ok (.iadd, 1) := by decide +kernel
theorem dX10_refuse_45 : decode cX10_refuse 45 = .ok (.putfield 52, 3) := by decide +kernel
theorem dX10_refuse_48 : decode cX10_refuse 48 = .ok (.iload_n 1, 1) := by decide +kernel
theorem dX10_refuse_49 : decode cX10_refuse 49 = .ok (.ireturn, 1) := by decide +kernel
def fX10_refuse_48 (v1 : Int32) (h : gx_H) : Option (Int32 × gx_H) :=
  some (v1, h)
def fX10_refuse (v0 : Nat) (v1 : Int32) (h : gx_H) : Option (Int32 × gx_H) :=
  (gx_isO h v0 8).bind fun _ =>
  if v1 = (-4 : Int32) then
    (gx_fI h v0 8 10).bind fun x5 =>
    (gx_pF h v0 8 10 (.int (x5 + (1 : Int32)))).bind fun h6 =>
    fX10_refuse_48 v1 h6
  else
    if v1 = (-3 : Int32) then
      (gx_fI h v0 8 9).bind fun x3 =>
      (gx_pF h v0 8 9 (.int (x3 + (1 : Int32)))).bind fun h4 =>
      fX10_refuse_48 v1 h4
    else
      (gx_fI h v0 8 8).bind fun x1 =>
      (gx_pF h v0 8 8 (.int (x1 + (1 : Int32)))).bind fun h2 =>
      fX10_refuse_48 v1 h2
set_option maxRecDepth 100000 in
set_option maxHeartbeats 4000000 in
theorem gX10_refuse_48 {E : gx_Env} {d : Nat}  : ∀ (v1 : Int32) (h : gx_H), gx_G E RX10 cX10_refuse 2 (some .int) false d 0 0 48 [none, some (.int v1)] [] h (fun x : Int32 => some (.int x)) (fX10_refuse_48 v1 h) := by
  intro v1 h
  unfold fX10_refuse_48
  refine gx_iload_n 1 dX10_refuse_48 rfl rfl ?_
  exact gx_iret dX10_refuse_49 rfl
set_option maxRecDepth 100000 in
set_option maxHeartbeats 4000000 in
theorem geX10_refuse {E : gx_Env} {d : Nat} (v0 : Nat) (v1 : Int32) (h : gx_H) : gx_G E RX10 cX10_refuse 2 (some .int) false d 0 0 0 [some (.ref v0), some (.int v1)] [] h (fun x : Int32 => some (.int x)) (fX10_refuse v0 v1 h) := by
  unfold fX10_refuse
  refine gx_bind fun _ _ => ?_
  refine gx_iload_n 1 dX10_refuse_0 rfl rfl ?_
  refine gx_bipush (-4 : Int32) dX10_refuse_1 (by decide) ?_
  refine gx_icmp_ne 19 dX10_refuse_3 (by decide) (fun _ => ?_) (fun _ => ?_)
  · refine gx_iload_n 1 dX10_refuse_19 rfl rfl ?_
    refine gx_bipush (-3 : Int32) dX10_refuse_20 (by decide) ?_
    refine gx_icmp_ne 38 dX10_refuse_22 (by decide) (fun _ => ?_) (fun _ => ?_)
    · refine gx_aload_n 0 dX10_refuse_38 rfl rfl ?_
      refine gx_dup dX10_refuse_39 rfl ?_
      refine gx_getI kf_RX10_52 dX10_refuse_40 (fun x1 => ?_)
      refine gx_iconst (1 : Int32) dX10_refuse_43 (by decide) ?_
      refine gx_iadd dX10_refuse_44 ?_
      refine gx_putI kp_RX10_52 (fun q => by cases q) dX10_refuse_45 (fun h2 => ?_)
      exact gx_sub (gX10_refuse_48 v1 h2) (And.intro rfl True.intro)
    · refine gx_aload_n 0 dX10_refuse_25 rfl rfl ?_
      refine gx_dup dX10_refuse_26 rfl ?_
      refine gx_getI kf_RX10_56 dX10_refuse_27 (fun x3 => ?_)
      refine gx_iconst (1 : Int32) dX10_refuse_30 (by decide) ?_
      refine gx_iadd dX10_refuse_31 ?_
      refine gx_putI kp_RX10_56 (fun q => by cases q) dX10_refuse_32 (fun h4 => ?_)
      refine gx_goto 48 dX10_refuse_35 (by decide) ?_
      exact gx_sub (gX10_refuse_48 v1 h4) (And.intro rfl True.intro)
  · refine gx_aload_n 0 dX10_refuse_6 rfl rfl ?_
    refine gx_dup dX10_refuse_7 rfl ?_
    refine gx_getI kf_RX10_59 dX10_refuse_8 (fun x5 => ?_)
    refine gx_iconst (1 : Int32) dX10_refuse_11 (by decide) ?_
    refine gx_iadd dX10_refuse_12 ?_
    refine gx_putI kp_RX10_59 (fun q => by cases q) dX10_refuse_13 (fun h6 => ?_)
    refine gx_goto 48 dX10_refuse_16 (by decide) ?_
    exact gx_sub (gX10_refuse_48 v1 h6) (And.intro rfl True.intro)
theorem okX10_refuse {E : gx_Env} (d : Nat) {v0 : Nat} {v1 : Int32} {h : gx_H} {r : Int32} {h1 : gx_H} (q : fX10_refuse v0 v1 h = some (r, h1)) : gx_M E yX10_refuse cX10_refuse 2 (some .int) d 0 0 [.ref v0, .int v1] h ((fun x : Int32 => some (.int x)) r) h1 := gx_meth (y := yX10_refuse) (cc := cX10_refuse) (nL := 2) (em := (fun x : Int32 => some (.int x))) (ini := false) [.ref v0, .int v1] (by decide) (by simp [gx_sl]) (fun q => by cases q) (geX10_refuse v0 v1 h) q
theorem dX10_board_0 : decode cX10_board 0 = .ok (.iload_n 1, 1) := by decide +kernel
theorem dX10_board_1 : decode cX10_board 1 = .ok (.bipush 10, 2) := by decide +kernel
theorem dX10_board_3 : decode cX10_board 3 = .ok (.bipush 40, 2) := by decide +kernel
theorem dX10_board_5 : decode cX10_board 5 = .ok (.invokestatic 62, 3) := by decide +kernel
theorem dX10_board_8 : decode cX10_board 8 = .ok (.ifCond .eq 13, 3) := by decide +kernel
theorem dX10_board_11 : decode cX10_board 11 = .ok (.iload_n 2, 1) := by decide +kernel
theorem dX10_board_12 : decode cX10_board 12 = .ok (.iconst 2, 1) := by decide +kernel
theorem dX10_board_13 : decode cX10_board 13 = .ok (.bipush 6, 2) := by decide +kernel
theorem dX10_board_15 : decode cX10_board 15 = .ok (.invokestatic 62, 3) := by decide +kernel
theorem dX10_board_18 : decode cX10_board 18 = .ok (.ifCond .ne 10, 3) := by decide +kernel
theorem dX10_board_21 : decode cX10_board 21 = .ok (.aload_n 0, 1) := by decide +kernel
theorem dX10_board_22 : decode cX10_board 22 = .ok (.bipush (-2), 2) := by decide +kernel
theorem dX10_board_24 : decode cX10_board 24 = .ok (.invokevirtual 66, 3) := by decide +kernel
theorem dX10_board_27 : decode cX10_board 27 = .ok (.ireturn, 1) := by decide +kernel
theorem dX10_board_28 : decode cX10_board 28 = .ok (.aload_n 0, 1) := by decide +kernel
theorem dX10_board_29 : decode cX10_board 29 = .ok (.getfield 10, 3) := by decide +kernel
theorem dX10_board_32 : decode cX10_board 32 = .ok (.getfield 70, 3) := by decide +kernel
theorem dX10_board_35 : decode cX10_board 35 = .ok (.getfield 74, 3) := by decide +kernel
theorem dX10_board_38 : decode cX10_board 38 = .ok (.istore_n 3, 1) := by decide +kernel
theorem dX10_board_39 : decode cX10_board 39 = .ok (.aload_n 0, 1) := by decide +kernel
theorem dX10_board_40 : decode cX10_board 40 = .ok (.getfield 10, 3) := by decide +kernel
theorem dX10_board_43 : decode cX10_board 43 = .ok (.invokevirtual 79, 3) := by decide +kernel
theorem dX10_board_46 : decode cX10_board 46 = .ok (.aload_n 0, 1) := by decide +kernel
theorem dX10_board_47 : decode cX10_board 47 = .ok (.getfield 10, 3) := by decide +kernel
theorem dX10_board_50 : decode cX10_board 50 = .ok (.getfield 70, 3) := by decide +kernel
theorem dX10_board_53 : decode cX10_board 53 = .ok (.iload_n 1, 1) := by decide +kernel
theorem dX10_board_54 : decode cX10_board 54 = .ok (.iload_n 2, 1) := by decide +kernel
theorem dX10_board_55 : decode cX10_board 55 = .ok (.invokevirtual 82, 3) := by decide +kernel
theorem dX10_board_58 : decode cX10_board 58 = .ok (.iload_n 3, 1) := by decide +kernel
theorem dX10_board_59 : decode cX10_board 59 = .ok (.ireturn, 1) := by decide +kernel
def fX10_board_21 (v0 : Nat) (h : gx_H) : Option (Int32 × gx_H) :=
  gx_bd (fX10_refuse v0 (-2 : Int32) h) fun x16 h15 =>
  some (x16, h15)
def fX10_board (v0 : Nat) (v1 : Int32) (v2 : Int32) (h : gx_H) : Option (Int32 × gx_H) :=
  (gx_isO h v0 8).bind fun _ =>
  gx_bd (fX10_within v1 (10 : Int32) (40 : Int32) h) fun x2 h1 =>
  if x2 = 0 then
    fX10_board_21 v0 h1
  else
    gx_bd (fX10_within v2 (2 : Int32) (6 : Int32) h1) fun x4 h3 =>
    if x4 = 0 then
      fX10_board_21 v0 h3
    else
      (gx_fR h3 v0 8 0).bind fun a5 =>
      (gx_fR h3 a5 1 0).bind fun a6 =>
      (gx_fI h3 a6 0 3).bind fun x7 =>
      (gx_fR h3 v0 8 0).bind fun a8 =>
      gx_bd (fX1_dropPast a8 h3) fun u10 h9 =>
      (gx_fR h9 v0 8 0).bind fun a11 =>
      (gx_fR h9 a11 1 0).bind fun a12 =>
      gx_bd (fX0_start a12 v1 v2 h9) fun u14 h13 =>
      some (x7, h13)
set_option maxRecDepth 100000 in
set_option maxHeartbeats 4000000 in
theorem gX10_board_21 {E : gx_Env} {d : Nat}  : ∀ (v0 : Nat) (h : gx_H), gx_G E RX10 cX10_board 4 (some .int) false (d + 2) 0 0 21 [some (.ref v0), none, none, none] [] h (fun x : Int32 => some (.int x)) (fX10_board_21 v0 h) := by
  intro v0 h
  unfold fX10_board_21
  refine gx_aload_n 0 dX10_board_21 rfl rfl ?_
  refine gx_bipush (-2 : Int32) dX10_board_22 (by decide) ?_
  refine gx_callV (ci := 8) (bc := 0) (bs := 0) (mc := 0) (ms := 0) (em' := (fun x : Int32 => some (.int x))) [.int (-2 : Int32)] kc_RX10_66 rfl dX10_board_24 rfl rfl (gx_w8 rfl) (fun x q => (gx_isO_of (by unfold fX10_refuse at q; exact q)).2) (fun _ _ q => okX10_refuse (d + 1) q) (fun x16 h15 => ?_)
  exact gx_iret dX10_board_27 rfl
set_option maxRecDepth 100000 in
set_option maxHeartbeats 4000000 in
theorem geX10_board {E : gx_Env} {d : Nat} (v0 : Nat) (v1 : Int32) (v2 : Int32) (h : gx_H) : gx_G E RX10 cX10_board 4 (some .int) false (d + 2) 0 0 0 [some (.ref v0), some (.int v1), some (.int v2), none] [] h (fun x : Int32 => some (.int x)) (fX10_board v0 v1 v2 h) := by
  unfold fX10_board
  refine gx_bind fun _ _ => ?_
  refine gx_iload_n 1 dX10_board_0 rfl rfl ?_
  refine gx_bipush (10 : Int32) dX10_board_1 (by decide) ?_
  refine gx_bipush (40 : Int32) dX10_board_3 (by decide) ?_
  refine gx_callS (bc := 0) (bs := 0) (mc := 0) (ms := 0) (em' := (fun x : Int32 => some (.int x))) [.int v1, .int (10 : Int32), .int (40 : Int32)] kc_RX10_62 dX10_board_5 rfl rfl (gx_w8 rfl) (fun _ _ q => okX10_within (d + 1) q) (fun x2 h1 => ?_)
  refine gx_if_eq 21 dX10_board_8 (by decide) (fun _ => ?_) (fun _ => ?_)
  · exact gx_sub (gX10_board_21 v0 h1) (And.intro rfl True.intro)
  · refine gx_iload_n 2 dX10_board_11 rfl rfl ?_
    refine gx_iconst (2 : Int32) dX10_board_12 (by decide) ?_
    refine gx_bipush (6 : Int32) dX10_board_13 (by decide) ?_
    refine gx_callS (bc := 0) (bs := 0) (mc := 0) (ms := 0) (em' := (fun x : Int32 => some (.int x))) [.int v2, .int (2 : Int32), .int (6 : Int32)] kc_RX10_62 dX10_board_15 rfl rfl (gx_w8 rfl) (fun _ _ q => okX10_within (d + 1) q) (fun x4 h3 => ?_)
    refine gx_if_ne 28 dX10_board_18 (by decide) (fun _ => ?_) (fun _ => ?_)
    · refine gx_aload_n 0 dX10_board_28 rfl rfl ?_
      refine gx_getR kf_RX10_10 dX10_board_29 (fun a5 => ?_)
      refine gx_getR kf_RX10_70 dX10_board_32 (fun a6 => ?_)
      refine gx_getI kf_RX10_74 dX10_board_35 (fun x7 => ?_)
      refine gx_istore_n 3 [some (.ref v0), some (.int v1), some (.int v2), some (.int x7)] dX10_board_38 rfl (by decide) rfl ?_
      refine gx_aload_n 0 dX10_board_39 rfl rfl ?_
      refine gx_getR kf_RX10_10 dX10_board_40 (fun a8 => ?_)
      refine gx_callV (ci := 1) (bc := 0) (bs := 0) (mc := 0) (ms := 0) (em' := (fun _ : Unit => none)) [] kc_RX10_79 rfl dX10_board_43 rfl rfl (gx_w8 rfl) (fun x q => (gx_isO_of (by unfold fX1_dropPast at q; exact q)).2) (fun _ _ q => okX1_dropPast d q) (fun u10 h9 => ?_)
      refine gx_aload_n 0 dX10_board_46 rfl rfl ?_
      refine gx_getR kf_RX10_10 dX10_board_47 (fun a11 => ?_)
      refine gx_getR kf_RX10_70 dX10_board_50 (fun a12 => ?_)
      refine gx_iload_n 1 dX10_board_53 rfl rfl ?_
      refine gx_iload_n 2 dX10_board_54 rfl rfl ?_
      refine gx_callV (ci := 0) (bc := 0) (bs := 0) (mc := 0) (ms := 0) (em' := (fun _ : Unit => none)) [.int v1, .int v2] kc_RX10_82 rfl dX10_board_55 rfl rfl (gx_w8 rfl) (fun x q => (gx_isO_of (by unfold fX0_start at q; exact q)).2) (fun _ _ q => okX0_start (d + 1) q) (fun u14 h13 => ?_)
      refine gx_iload_n 3 dX10_board_58 rfl rfl ?_
      exact gx_iret dX10_board_59 rfl
    · exact gx_sub (gX10_board_21 v0 h3) (And.intro rfl True.intro)
theorem okX10_board {E : gx_Env} (d : Nat) {v0 : Nat} {v1 : Int32} {v2 : Int32} {h : gx_H} {r : Int32} {h1 : gx_H} (q : fX10_board v0 v1 v2 h = some (r, h1)) : gx_M E yX10_board cX10_board 4 (some .int) (d + 2) 0 0 [.ref v0, .int v1, .int v2] h ((fun x : Int32 => some (.int x)) r) h1 := gx_meth (y := yX10_board) (cc := cX10_board) (nL := 4) (em := (fun x : Int32 => some (.int x))) (ini := false) [.ref v0, .int v1, .int v2] (by decide) (by simp [gx_sl]) (fun q => by cases q) (geX10_board v0 v1 v2 h) q
theorem dX10_die_0 : decode cX10_die 0 = .ok (.iload_n 1, 1) := by decide +kernel
theorem dX10_die_1 : decode cX10_die 1 = .ok (.iconst 2, 1) := by decide +kernel
theorem dX10_die_2 : decode cX10_die 2 = .ok (.bipush 6, 2) := by decide +kernel
theorem dX10_die_4 : decode cX10_die 4 = .ok (.invokestatic 62, 3) := by decide +kernel
theorem dX10_die_7 : decode cX10_die 7 = .ok (.ifCond .ne 10, 3) := by decide +kernel
theorem dX10_die_10 : decode cX10_die 10 = .ok (.aload_n 0, 1) := by decide +kernel
theorem dX10_die_11 : decode cX10_die 11 = .ok (.bipush (-2), 2) := by decide +kernel
theorem dX10_die_13 : decode cX10_die 13 = .ok (.invokevirtual 66, 3) := by decide +kernel
theorem dX10_die_16 : decode cX10_die 16 = .ok (.ireturn, 1) := by decide +kernel
theorem dX10_die_17 : decode cX10_die 17 = .ok (.aload_n 0, 1) := by decide +kernel
theorem dX10_die_18 : decode cX10_die 18 = .ok (.getfield 10, 3) := by decide +kernel
theorem dX10_die_21 : decode cX10_die 21 = .ok (.getfield 70, 3) := by decide +kernel
theorem dX10_die_24 : decode cX10_die 24 = .ok (.getfield 86, 3) := by decide +kernel
theorem dX10_die_27 : decode cX10_die 27 = .ok (.istore_n 2, 1) := by decide +kernel
theorem dX10_die_28 : decode cX10_die 28 = .ok (.aload_n 0, 1) := by decide +kernel
theorem dX10_die_29 : decode cX10_die 29 = .ok (.getfield 10, 3) := by decide +kernel
theorem dX10_die_32 : decode cX10_die 32 = .ok (.getfield 70, 3) := by decide +kernel
theorem dX10_die_35 : decode cX10_die 35 = .ok (.iload_n 1, 1) := by decide +kernel
theorem dX10_die_36 : decode cX10_die 36 = .ok (.putfield 86, 3) := by decide +kernel
theorem dX10_die_39 : decode cX10_die 39 = .ok (.aload_n 0, 1) := by decide +kernel
theorem dX10_die_40 : decode cX10_die 40 = .ok (.getfield 10, 3) := by decide +kernel
theorem dX10_die_43 : decode cX10_die 43 = .ok (.getfield 89, 3) := by decide +kernel
theorem dX10_die_46 : decode cX10_die 46 = .ok (.invokevirtual 93, 3) := by decide +kernel
theorem dX10_die_49 : decode cX10_die 49 = .ok (.iload_n 2, 1) := by decide +kernel
theorem dX10_die_50 : decode cX10_die 50 = .ok (.ireturn, 1) := by decide +kernel
def fX10_die (v0 : Nat) (v1 : Int32) (h : gx_H) : Option (Int32 × gx_H) :=
  (gx_isO h v0 8).bind fun _ =>
  gx_bd (fX10_within v1 (2 : Int32) (6 : Int32) h) fun x2 h1 =>
  if x2 = 0 then
    gx_bd (fX10_refuse v0 (-2 : Int32) h1) fun x14 h13 =>
    some (x14, h13)
  else
    (gx_fR h1 v0 8 0).bind fun a3 =>
    (gx_fR h1 a3 1 0).bind fun a4 =>
    (gx_fI h1 a4 0 1).bind fun x5 =>
    (gx_fR h1 v0 8 0).bind fun a6 =>
    (gx_fR h1 a6 1 0).bind fun a7 =>
    (gx_pF h1 a7 0 1 (.int v1)).bind fun h8 =>
    (gx_fR h8 v0 8 0).bind fun a9 =>
    (gx_fR h8 a9 1 1).bind fun a10 =>
    gx_bd (fX3_empty a10 h8) fun u12 h11 =>
    some (x5, h11)
set_option maxRecDepth 100000 in
set_option maxHeartbeats 4000000 in
theorem geX10_die {E : gx_Env} {d : Nat} (v0 : Nat) (v1 : Int32) (h : gx_H) : gx_G E RX10 cX10_die 3 (some .int) false (d + 1) 0 0 0 [some (.ref v0), some (.int v1), none] [] h (fun x : Int32 => some (.int x)) (fX10_die v0 v1 h) := by
  unfold fX10_die
  refine gx_bind fun _ _ => ?_
  refine gx_iload_n 1 dX10_die_0 rfl rfl ?_
  refine gx_iconst (2 : Int32) dX10_die_1 (by decide) ?_
  refine gx_bipush (6 : Int32) dX10_die_2 (by decide) ?_
  refine gx_callS (bc := 0) (bs := 0) (mc := 0) (ms := 0) (em' := (fun x : Int32 => some (.int x))) [.int v1, .int (2 : Int32), .int (6 : Int32)] kc_RX10_62 dX10_die_4 rfl rfl (gx_w8 rfl) (fun _ _ q => okX10_within d q) (fun x2 h1 => ?_)
  refine gx_if_ne 17 dX10_die_7 (by decide) (fun _ => ?_) (fun _ => ?_)
  · refine gx_aload_n 0 dX10_die_17 rfl rfl ?_
    refine gx_getR kf_RX10_10 dX10_die_18 (fun a3 => ?_)
    refine gx_getR kf_RX10_70 dX10_die_21 (fun a4 => ?_)
    refine gx_getI kf_RX10_86 dX10_die_24 (fun x5 => ?_)
    refine gx_istore_n 2 [some (.ref v0), some (.int v1), some (.int x5)] dX10_die_27 rfl (by decide) rfl ?_
    refine gx_aload_n 0 dX10_die_28 rfl rfl ?_
    refine gx_getR kf_RX10_10 dX10_die_29 (fun a6 => ?_)
    refine gx_getR kf_RX10_70 dX10_die_32 (fun a7 => ?_)
    refine gx_iload_n 1 dX10_die_35 rfl rfl ?_
    refine gx_putI kp_RX10_86 (fun q => by cases q) dX10_die_36 (fun h8 => ?_)
    refine gx_aload_n 0 dX10_die_39 rfl rfl ?_
    refine gx_getR kf_RX10_10 dX10_die_40 (fun a9 => ?_)
    refine gx_getR kf_RX10_89 dX10_die_43 (fun a10 => ?_)
    refine gx_callV (ci := 3) (bc := 0) (bs := 0) (mc := 0) (ms := 0) (em' := (fun _ : Unit => none)) [] kc_RX10_93 rfl dX10_die_46 rfl rfl (gx_w8 rfl) (fun x q => (gx_isO_of (by unfold fX3_empty at q; exact q)).2) (fun _ _ q => okX3_empty d q) (fun u12 h11 => ?_)
    refine gx_iload_n 2 dX10_die_49 rfl rfl ?_
    exact gx_iret dX10_die_50 rfl
  · refine gx_aload_n 0 dX10_die_10 rfl rfl ?_
    refine gx_bipush (-2 : Int32) dX10_die_11 (by decide) ?_
    refine gx_callV (ci := 8) (bc := 0) (bs := 0) (mc := 0) (ms := 0) (em' := (fun x : Int32 => some (.int x))) [.int (-2 : Int32)] kc_RX10_66 rfl dX10_die_13 rfl rfl (gx_w8 rfl) (fun x q => (gx_isO_of (by unfold fX10_refuse at q; exact q)).2) (fun _ _ q => okX10_refuse d q) (fun x14 h13 => ?_)
    exact gx_iret dX10_die_16 rfl
theorem okX10_die {E : gx_Env} (d : Nat) {v0 : Nat} {v1 : Int32} {h : gx_H} {r : Int32} {h1 : gx_H} (q : fX10_die v0 v1 h = some (r, h1)) : gx_M E yX10_die cX10_die 3 (some .int) (d + 1) 0 0 [.ref v0, .int v1] h ((fun x : Int32 => some (.int x)) r) h1 := gx_meth (y := yX10_die) (cc := cX10_die) (nL := 3) (em := (fun x : Int32 => some (.int x))) (ini := false) [.ref v0, .int v1] (by decide) (by simp [gx_sl]) (fun q => by cases q) (geX10_die v0 v1 h) q
theorem dX10_link_0 : decode cX10_link 0 = .ok (.aload_n 0, 1) := by decide +kernel
theorem dX10_link_1 : decode cX10_link 1 = .ok (.getfield 10, 3) := by decide +kernel
theorem dX10_link_4 : decode cX10_link 4 = .ok (.getfield 70, 3) := by decide +kernel
theorem dX10_link_7 : decode cX10_link 7 = .ok (.astore 4, 2) := by decide +kernel
theorem dX10_link_9 : decode cX10_link 9 = .ok (.iload_n 1, 1) := by decide +kernel
theorem dX10_link_10 : decode cX10_link 10 = .ok (.iconst 0, 1) := by decide +kernel
theorem dX10_link_11 : decode cX10_link 11 = .ok (.iconst 5, 1) := by decide +kernel
theorem dX10_link_12 : decode cX10_link 12 = .ok (.invokestatic 62, 3) := by decide +kernel
theorem dX10_link_15 : decode cX10_link 15 = .ok (.ifCond .eq 35, 3) := by decide +kernel
theorem dX10_link_18 : decode cX10_link 18 = .ok (.iload_n 2, 1) := by decide +kernel
theorem dX10_link_19 : decode cX10_link 19 = .ok (.iconst 1, 1) := by decide +kernel
theorem dX10_link_20 : decode cX10_link 20 = .ok (.aload 4, 2) := by decide +kernel
theorem dX10_link_22 : decode cX10_link 22 = .ok (.getfield 98, 3) := by decide +kernel
theorem dX10_link_25 : decode cX10_link 25 = .ok (.iconst 1, 1) := by decide +kernel
theorem dX10_link_26 : decode cX10_link 26 = .ok (.isub, 1) := by decide +kernel
theorem dX10_link_27 : decode cX10_link 27 = .ok (.invokestatic 62, 3) := by decide +kernel
theorem dX10_link_30 : decode cX10_link 30 = .ok (.ifCond .eq 20, 3) := by decide +kernel
theorem dX10_link_33 : decode cX10_link 33 = .ok (.iload_n 3, 1) := by decide +kernel
theorem dX10_link_34 : decode cX10_link 34 = .ok (.iconst 0, 1) := by decide +kernel
theorem dX10_link_35 : decode cX10_link 35 = .ok (.aload 4, 2) := by decide +kernel
theorem dX10_link_37 : decode cX10_link 37 = .ok (.getfield 98, 3) := by decide +kernel
theorem dX10_link_40 : decode cX10_link 40 = .ok (.invokestatic 62, 3) := by decide +kernel
theorem dX10_link_43 : decode cX10_link 43 = .ok (.ifCond .eq 7, 3) := by decide +kernel
theorem dX10_link_46 : decode cX10_link 46 = .ok (.iconst 1, 1) := by decide +kernel
theorem dX10_link_47 : decode cX10_link 47 = .ok (.goto 4, 3) := by decide +kernel
theorem dX10_link_50 : decode cX10_link 50 = .ok (.iconst 0, 1) := by decide +kernel
theorem dX10_link_51 : decode cX10_link 51 = .ok (.istore 5, 2) := by decide +kernel
theorem dX10_link_53 : decode cX10_link 53 = .ok (.iload 5, 2) := by decide +kernel
theorem dX10_link_55 : decode cX10_link 55 = .ok (.ifCond .eq 8, 3) := by decide +kernel
theorem dX10_link_58 : decode cX10_link 58 = .ok (.iload_n 2, 1) := by decide +kernel
theorem dX10_link_59 : decode cX10_link 59 = .ok (.iload_n 3, 1) := by decide +kernel
theorem dX10_link_60 : decode cX10_link 60 = .ok (.if_icmp .ne 10, 3) := by decide +kernel
theorem dX10_link_63 : decode cX10_link 63 = .ok (.aload_n 0, 1) := by decide +kernel
theorem dX10_link_64 : decode cX10_link 64 = .ok (.bipush (-2), 2) := by decide +kernel
theorem dX10_link_66 : decode cX10_link 66 = .ok (.invokevirtual 66, 3) := by decide +kernel
theorem dX10_link_69 : decode cX10_link 69 = .ok (.ireturn, 1) := by decide +kernel
theorem dX10_link_70 : decode cX10_link 70 = .ok (.aload 4, 2) := by decide +kernel
theorem dX10_link_72 : decode cX10_link 72 = .ok (.iload_n 2, 1) := by decide +kernel
theorem dX10_link_73 : decode cX10_link 73 = .ok (.invokevirtual 101, 3) := by decide +kernel
theorem dX10_link_76 : decode cX10_link 76 = .ok (.iconst (-1), 1) := by decide +kernel
theorem dX10_link_77 : decode cX10_link 77 = .ok (.if_icmp .eq 10, 3) := by decide +kernel
theorem dX10_link_80 : decode cX10_link 80 = .ok (.aload_n 0, 1) := by decide +kernel
theorem dX10_link_81 : decode cX10_link 81 = .ok (.bipush (-3), 2) := by decide +kernel
theorem dX10_link_83 : decode cX10_link 83 = .ok (.invokevirtual 66, 3) := by decide +kernel
theorem dX10_link_86 : decode cX10_link 86 = .ok (.ireturn, 1) := by decide +kernel
theorem dX10_link_87 : decode cX10_link 87 = .ok (.aload 4, 2) := by decide +kernel
theorem dX10_link_89 : decode cX10_link 89 = .ok (.getfield 104, 3) := by decide +kernel
theorem dX10_link_92 : decode cX10_link 92 = .ok (.bipush 6, 2) := by decide +kernel
theorem dX10_link_94 : decode cX10_link 94 = .ok (.if_icmp .lt 10, 3) := by decide +kernel
theorem dX10_link_97 : decode cX10_link 97 = .ok (.aload_n 0, 1) := by decide +kernel
theorem dX10_link_98 : decode cX10_link 98 = .ok (.bipush (-4), 2) := by decide +kernel
theorem dX10_link_100 : decode cX10_link 100 = .ok (.invokevirtual 66, 3) := by decide +kernel
theorem dX10_link_103 : decode cX10_link 103 = .ok (.ireturn, 1) := by decide +kernel
theorem dX10_link_104 : decode cX10_link 104 = .ok (.aload_n 0, 1) := by decide +kernel
theorem dX10_link_105 : decode cX10_link 105 = .ok (.getfield 10, 3) := by decide +kernel
theorem dX10_link_108 : decode cX10_link 108 = .ok (.getfield 89, 3) := by decide +kernel
theorem dX10_link_111 : decode cX10_link 111 = .ok (.invokevirtual 93, 3) := by decide +kernel
theorem dX10_link_114 : decode cX10_link 114 = .ok (.aload 4, 2) := by decide +kernel
theorem dX10_link_116 : decode cX10_link 116 = .ok (.iload_n 1, 1) := by decide +kernel
theorem dX10_link_117 : decode cX10_link 117 = .ok (.iload_n 2, 1) := by decide +kernel
theorem dX10_link_118 : decode cX10_link 118 = .ok (.iload_n 3, 1) := by decide +kernel
theorem dX10_link_119 : decode cX10_link 119 = .ok (.invokevirtual 107, 3) := by decide +kernel
theorem dX10_link_122 : decode cX10_link 122 = .ok (.ireturn, 1) := by decide +kernel
def fX10_link_63 (v0 : Nat) (h : gx_H) : Option (Int32 × gx_H) :=
  gx_bd (fX10_refuse v0 (-2 : Int32) h) fun x25 h24 =>
  some (x25, h24)
def fX10_link_51 (v0 : Nat) (v1 : Int32) (v2 : Int32) (v3 : Int32) (v4 : Nat) (s0 : Int32) (h : gx_H) : Option (Int32 × gx_H) :=
  if s0 = 0 then
    fX10_link_63 v0 h
  else
    if v2 = v3 then
      fX10_link_63 v0 h
    else
      gx_bd (fX0_linkOn v4 v2 h) fun x12 h11 =>
      if x12 = (-1 : Int32) then
        (gx_fI h11 v4 0 2).bind fun x13 =>
        if x13 < (6 : Int32) then
          (gx_fR h11 v0 8 0).bind fun a14 =>
          (gx_fR h11 a14 1 1).bind fun a15 =>
          gx_bd (fX3_empty a15 h11) fun u17 h16 =>
          gx_bd (fX0_addLink v4 v1 v2 v3 h16) fun x19 h18 =>
          some (x19, h18)
        else
          gx_bd (fX10_refuse v0 (-4 : Int32) h11) fun x21 h20 =>
          some (x21, h20)
      else
        gx_bd (fX10_refuse v0 (-3 : Int32) h11) fun x23 h22 =>
        some (x23, h22)
def fX10_link_50 (v0 : Nat) (v1 : Int32) (v2 : Int32) (v3 : Int32) (v4 : Nat) (h : gx_H) : Option (Int32 × gx_H) :=
  fX10_link_51 v0 v1 v2 v3 v4 (0 : Int32) h
def fX10_link (v0 : Nat) (v1 : Int32) (v2 : Int32) (v3 : Int32) (h : gx_H) : Option (Int32 × gx_H) :=
  (gx_isO h v0 8).bind fun _ =>
  (gx_fR h v0 8 0).bind fun a1 =>
  (gx_fR h a1 1 0).bind fun a2 =>
  gx_bd (fX10_within v1 (0 : Int32) (5 : Int32) h) fun x4 h3 =>
  if x4 = 0 then
    fX10_link_50 v0 v1 v2 v3 a2 h3
  else
    (gx_fI h3 a2 0 0).bind fun x5 =>
    gx_bd (fX10_within v2 (1 : Int32) (x5 - (1 : Int32)) h3) fun x7 h6 =>
    if x7 = 0 then
      fX10_link_50 v0 v1 v2 v3 a2 h6
    else
      (gx_fI h6 a2 0 0).bind fun x8 =>
      gx_bd (fX10_within v3 (0 : Int32) x8 h6) fun x10 h9 =>
      if x10 = 0 then
        fX10_link_50 v0 v1 v2 v3 a2 h9
      else
        fX10_link_51 v0 v1 v2 v3 a2 (1 : Int32) h9
set_option maxRecDepth 100000 in
set_option maxHeartbeats 4000000 in
theorem gX10_link_63 {E : gx_Env} {d : Nat}  : ∀ (v0 : Nat) (h : gx_H), gx_G E RX10 cX10_link 6 (some .int) false (d + 1) 0 0 63 [some (.ref v0), none, none, none, none, none] [] h (fun x : Int32 => some (.int x)) (fX10_link_63 v0 h) := by
  intro v0 h
  unfold fX10_link_63
  refine gx_aload_n 0 dX10_link_63 rfl rfl ?_
  refine gx_bipush (-2 : Int32) dX10_link_64 (by decide) ?_
  refine gx_callV (ci := 8) (bc := 0) (bs := 0) (mc := 0) (ms := 0) (em' := (fun x : Int32 => some (.int x))) [.int (-2 : Int32)] kc_RX10_66 rfl dX10_link_66 rfl rfl (gx_w8 rfl) (fun x q => (gx_isO_of (by unfold fX10_refuse at q; exact q)).2) (fun _ _ q => okX10_refuse d q) (fun x25 h24 => ?_)
  exact gx_iret dX10_link_69 rfl
set_option maxRecDepth 100000 in
set_option maxHeartbeats 4000000 in
theorem gX10_link_51 {E : gx_Env} {d : Nat}  : ∀ (v0 : Nat) (v1 : Int32) (v2 : Int32) (v3 : Int32) (v4 : Nat) (s0 : Int32) (h : gx_H), gx_G E RX10 cX10_link 6 (some .int) false (d + 1) 0 0 51 [some (.ref v0), some (.int v1), some (.int v2), some (.int v3), some (.ref v4), none] [.int s0] h (fun x : Int32 => some (.int x)) (fX10_link_51 v0 v1 v2 v3 v4 s0 h) := by
  intro v0 v1 v2 v3 v4 s0 h
  unfold fX10_link_51
  refine gx_istore [some (.ref v0), some (.int v1), some (.int v2), some (.int v3), some (.ref v4), some (.int s0)] dX10_link_51 (by decide) rfl ?_
  refine gx_iload dX10_link_53 rfl ?_
  refine gx_if_eq 63 dX10_link_55 (by decide) (fun _ => ?_) (fun _ => ?_)
  · exact gx_sub (gX10_link_63 v0 h) (And.intro rfl True.intro)
  · refine gx_iload_n 2 dX10_link_58 rfl rfl ?_
    refine gx_iload_n 3 dX10_link_59 rfl rfl ?_
    refine gx_icmp_ne 70 dX10_link_60 (by decide) (fun _ => ?_) (fun _ => ?_)
    · refine gx_aload dX10_link_70 rfl ?_
      refine gx_iload_n 2 dX10_link_72 rfl rfl ?_
      refine gx_callV (ci := 0) (bc := 0) (bs := 0) (mc := 0) (ms := 0) (em' := (fun x : Int32 => some (.int x))) [.int v2] kc_RX10_101 rfl dX10_link_73 rfl rfl (gx_w8 rfl) (fun x q => (gx_isO_of (by unfold fX0_linkOn at q; exact q)).2) (fun _ _ q => okX0_linkOn d q) (fun x12 h11 => ?_)
      refine gx_iconst (-1 : Int32) dX10_link_76 (by decide) ?_
      refine gx_icmp_eq 87 dX10_link_77 (by decide) (fun _ => ?_) (fun _ => ?_)
      · refine gx_aload dX10_link_87 rfl ?_
        refine gx_getI kf_RX10_104 dX10_link_89 (fun x13 => ?_)
        refine gx_bipush (6 : Int32) dX10_link_92 (by decide) ?_
        refine gx_icmp_lt 104 dX10_link_94 (by decide) (fun _ => ?_) (fun _ => ?_)
        · refine gx_aload_n 0 dX10_link_104 rfl rfl ?_
          refine gx_getR kf_RX10_10 dX10_link_105 (fun a14 => ?_)
          refine gx_getR kf_RX10_89 dX10_link_108 (fun a15 => ?_)
          refine gx_callV (ci := 3) (bc := 0) (bs := 0) (mc := 0) (ms := 0) (em' := (fun _ : Unit => none)) [] kc_RX10_93 rfl dX10_link_111 rfl rfl (gx_w8 rfl) (fun x q => (gx_isO_of (by unfold fX3_empty at q; exact q)).2) (fun _ _ q => okX3_empty d q) (fun u17 h16 => ?_)
          refine gx_aload dX10_link_114 rfl ?_
          refine gx_iload_n 1 dX10_link_116 rfl rfl ?_
          refine gx_iload_n 2 dX10_link_117 rfl rfl ?_
          refine gx_iload_n 3 dX10_link_118 rfl rfl ?_
          refine gx_callV (ci := 0) (bc := 0) (bs := 0) (mc := 0) (ms := 0) (em' := (fun x : Int32 => some (.int x))) [.int v1, .int v2, .int v3] kc_RX10_107 rfl dX10_link_119 rfl rfl (gx_w8 rfl) (fun x q => (gx_isO_of (by unfold fX0_addLink at q; exact q)).2) (fun _ _ q => okX0_addLink d q) (fun x19 h18 => ?_)
          exact gx_iret dX10_link_122 rfl
        · refine gx_aload_n 0 dX10_link_97 rfl rfl ?_
          refine gx_bipush (-4 : Int32) dX10_link_98 (by decide) ?_
          refine gx_callV (ci := 8) (bc := 0) (bs := 0) (mc := 0) (ms := 0) (em' := (fun x : Int32 => some (.int x))) [.int (-4 : Int32)] kc_RX10_66 rfl dX10_link_100 rfl rfl (gx_w8 rfl) (fun x q => (gx_isO_of (by unfold fX10_refuse at q; exact q)).2) (fun _ _ q => okX10_refuse d q) (fun x21 h20 => ?_)
          exact gx_iret dX10_link_103 rfl
      · refine gx_aload_n 0 dX10_link_80 rfl rfl ?_
        refine gx_bipush (-3 : Int32) dX10_link_81 (by decide) ?_
        refine gx_callV (ci := 8) (bc := 0) (bs := 0) (mc := 0) (ms := 0) (em' := (fun x : Int32 => some (.int x))) [.int (-3 : Int32)] kc_RX10_66 rfl dX10_link_83 rfl rfl (gx_w8 rfl) (fun x q => (gx_isO_of (by unfold fX10_refuse at q; exact q)).2) (fun _ _ q => okX10_refuse d q) (fun x23 h22 => ?_)
        exact gx_iret dX10_link_86 rfl
    · exact gx_sub (gX10_link_63 v0 h) (And.intro rfl True.intro)
set_option maxRecDepth 100000 in
set_option maxHeartbeats 4000000 in
theorem gX10_link_50 {E : gx_Env} {d : Nat}  : ∀ (v0 : Nat) (v1 : Int32) (v2 : Int32) (v3 : Int32) (v4 : Nat) (h : gx_H), gx_G E RX10 cX10_link 6 (some .int) false (d + 1) 0 0 50 [some (.ref v0), some (.int v1), some (.int v2), some (.int v3), some (.ref v4), none] [] h (fun x : Int32 => some (.int x)) (fX10_link_50 v0 v1 v2 v3 v4 h) := by
  intro v0 v1 v2 v3 v4 h
  unfold fX10_link_50
  refine gx_iconst (0 : Int32) dX10_link_50 (by decide) ?_
  exact gx_sub (gX10_link_51 v0 v1 v2 v3 v4 (0 : Int32) h) (And.intro rfl (And.intro rfl (And.intro rfl (And.intro rfl (And.intro rfl True.intro)))))
set_option maxRecDepth 100000 in
set_option maxHeartbeats 4000000 in
theorem geX10_link {E : gx_Env} {d : Nat} (v0 : Nat) (v1 : Int32) (v2 : Int32) (v3 : Int32) (h : gx_H) : gx_G E RX10 cX10_link 6 (some .int) false (d + 1) 0 0 0 [some (.ref v0), some (.int v1), some (.int v2), some (.int v3), none, none] [] h (fun x : Int32 => some (.int x)) (fX10_link v0 v1 v2 v3 h) := by
  unfold fX10_link
  refine gx_bind fun _ _ => ?_
  refine gx_aload_n 0 dX10_link_0 rfl rfl ?_
  refine gx_getR kf_RX10_10 dX10_link_1 (fun a1 => ?_)
  refine gx_getR kf_RX10_70 dX10_link_4 (fun a2 => ?_)
  refine gx_astore [some (.ref v0), some (.int v1), some (.int v2), some (.int v3), some (.ref a2), none] dX10_link_7 (by decide) rfl ?_
  refine gx_iload_n 1 dX10_link_9 rfl rfl ?_
  refine gx_iconst (0 : Int32) dX10_link_10 (by decide) ?_
  refine gx_iconst (5 : Int32) dX10_link_11 (by decide) ?_
  refine gx_callS (bc := 0) (bs := 0) (mc := 0) (ms := 0) (em' := (fun x : Int32 => some (.int x))) [.int v1, .int (0 : Int32), .int (5 : Int32)] kc_RX10_62 dX10_link_12 rfl rfl (gx_w8 rfl) (fun _ _ q => okX10_within d q) (fun x4 h3 => ?_)
  refine gx_if_eq 50 dX10_link_15 (by decide) (fun _ => ?_) (fun _ => ?_)
  · exact gx_sub (gX10_link_50 v0 v1 v2 v3 a2 h3) (And.intro rfl (And.intro rfl (And.intro rfl (And.intro rfl (And.intro rfl True.intro)))))
  · refine gx_iload_n 2 dX10_link_18 rfl rfl ?_
    refine gx_iconst (1 : Int32) dX10_link_19 (by decide) ?_
    refine gx_aload dX10_link_20 rfl ?_
    refine gx_getI kf_RX10_98 dX10_link_22 (fun x5 => ?_)
    refine gx_iconst (1 : Int32) dX10_link_25 (by decide) ?_
    refine gx_isub dX10_link_26 ?_
    refine gx_callS (bc := 0) (bs := 0) (mc := 0) (ms := 0) (em' := (fun x : Int32 => some (.int x))) [.int v2, .int (1 : Int32), .int (x5 - (1 : Int32))] kc_RX10_62 dX10_link_27 rfl rfl (gx_w8 rfl) (fun _ _ q => okX10_within d q) (fun x7 h6 => ?_)
    refine gx_if_eq 50 dX10_link_30 (by decide) (fun _ => ?_) (fun _ => ?_)
    · exact gx_sub (gX10_link_50 v0 v1 v2 v3 a2 h6) (And.intro rfl (And.intro rfl (And.intro rfl (And.intro rfl (And.intro rfl True.intro)))))
    · refine gx_iload_n 3 dX10_link_33 rfl rfl ?_
      refine gx_iconst (0 : Int32) dX10_link_34 (by decide) ?_
      refine gx_aload dX10_link_35 rfl ?_
      refine gx_getI kf_RX10_98 dX10_link_37 (fun x8 => ?_)
      refine gx_callS (bc := 0) (bs := 0) (mc := 0) (ms := 0) (em' := (fun x : Int32 => some (.int x))) [.int v3, .int (0 : Int32), .int x8] kc_RX10_62 dX10_link_40 rfl rfl (gx_w8 rfl) (fun _ _ q => okX10_within d q) (fun x10 h9 => ?_)
      refine gx_if_eq 50 dX10_link_43 (by decide) (fun _ => ?_) (fun _ => ?_)
      · exact gx_sub (gX10_link_50 v0 v1 v2 v3 a2 h9) (And.intro rfl (And.intro rfl (And.intro rfl (And.intro rfl (And.intro rfl True.intro)))))
      · refine gx_iconst (1 : Int32) dX10_link_46 (by decide) ?_
        refine gx_goto 51 dX10_link_47 (by decide) ?_
        exact gx_sub (gX10_link_51 v0 v1 v2 v3 a2 (1 : Int32) h9) (And.intro rfl (And.intro rfl (And.intro rfl (And.intro rfl (And.intro rfl True.intro)))))
theorem okX10_link {E : gx_Env} (d : Nat) {v0 : Nat} {v1 : Int32} {v2 : Int32} {v3 : Int32} {h : gx_H} {r : Int32} {h1 : gx_H} (q : fX10_link v0 v1 v2 v3 h = some (r, h1)) : gx_M E yX10_link cX10_link 6 (some .int) (d + 1) 0 0 [.ref v0, .int v1, .int v2, .int v3] h ((fun x : Int32 => some (.int x)) r) h1 := gx_meth (y := yX10_link) (cc := cX10_link) (nL := 6) (em := (fun x : Int32 => some (.int x))) (ini := false) [.ref v0, .int v1, .int v2, .int v3] (by decide) (by simp [gx_sl]) (fun q => by cases q) (geX10_link v0 v1 v2 v3 h) q
theorem dX10_player_0 : decode cX10_player 0 = .ok (.iload_n 1, 1) := by decide +kernel
theorem dX10_player_1 : decode cX10_player 1 = .ok (.iconst 0, 1) := by decide +kernel
theorem dX10_player_2 : decode cX10_player 2 = .ok (.iconst 5, 1) := by decide +kernel
theorem dX10_player_3 : decode cX10_player 3 = .ok (.invokestatic 62, 3) := by decide +kernel
theorem dX10_player_6 : decode cX10_player 6 = .ok (.ifCond .ne 10, 3) := by decide +kernel
theorem dX10_player_9 : decode cX10_player 9 = .ok (.aload_n 0, 1) := by decide +kernel
theorem dX10_player_10 : decode cX10_player 10 = .ok (.bipush (-2), 2) := by decide +kernel
theorem dX10_player_12 : decode cX10_player 12 = .ok (.invokevirtual 66, 3) := by decide +kernel
theorem dX10_player_15 : decode cX10_player 15 = .ok (.ireturn, 1) := by decide +kernel
theorem dX10_player_16 : decode cX10_player 16 = .ok (.aload_n 0, 1) := by decide +kernel
theorem dX10_player_17 : decode cX10_player 17 = .ok (.getfield 10, 3) := by decide +kernel
theorem dX10_player_20 : decode cX10_player 20 = .ok (.getfield 70, 3) := by decide +kernel
theorem dX10_player_23 : decode cX10_player 23 = .ok (.getfield 74, 3) := by decide +kernel
theorem dX10_player_26 : decode cX10_player 26 = .ok (.iconst 4, 1) := by decide +kernel
theorem dX10_player_27 : decode cX10_player 27 = .ok (.if_icmp .lt 10, 3) := by decide +kernel
theorem dX10_player_30 : decode cX10_player 30 = .ok (.aload_n 0, 1) := by decide +kernel
theorem dX10_player_31 : decode cX10_player 31 = .ok (.bipush (-4), 2) := by decide +kernel
theorem dX10_player_33 : decode cX10_player 33 = .ok (.invokevirtual 66, 3) := by decide +kernel
theorem dX10_player_36 : decode cX10_player 36 = .ok (.ireturn, 1) := by decide +kernel
theorem dX10_player_37 : decode cX10_player 37 = .ok (.aload_n 0, 1) := by decide +kernel
theorem dX10_player_38 : decode cX10_player 38 = .ok (.getfield 10, 3) := by decide +kernel
theorem dX10_player_41 : decode cX10_player 41 = .ok (.getfield 89, 3) := by decide +kernel
theorem dX10_player_44 : decode cX10_player 44 = .ok (.invokevirtual 93, 3) := by decide +kernel
theorem dX10_player_47 : decode cX10_player 47 = .ok (.aload_n 0, 1) := by decide +kernel
theorem dX10_player_48 : decode cX10_player 48 = .ok (.getfield 10, 3) := by decide +kernel
theorem dX10_player_51 : decode cX10_player 51 = .ok (.getfield 70, 3) := by decide +kernel
theorem dX10_player_54 : decode cX10_player 54 = .ok (.iload_n 1, 1) := by decide +kernel
theorem dX10_player_55 : decode cX10_player 55 = .ok (.invokevirtual 111, 3) := by decide +kernel
theorem dX10_player_58 : decode cX10_player 58 = .ok (.ireturn, 1) := by decide +kernel
def fX10_player (v0 : Nat) (v1 : Int32) (h : gx_H) : Option (Int32 × gx_H) :=
  (gx_isO h v0 8).bind fun _ =>
  gx_bd (fX10_within v1 (0 : Int32) (5 : Int32) h) fun x2 h1 =>
  if x2 = 0 then
    gx_bd (fX10_refuse v0 (-2 : Int32) h1) fun x17 h16 =>
    some (x17, h16)
  else
    (gx_fR h1 v0 8 0).bind fun a3 =>
    (gx_fR h1 a3 1 0).bind fun a4 =>
    (gx_fI h1 a4 0 3).bind fun x5 =>
    if x5 < (4 : Int32) then
      (gx_fR h1 v0 8 0).bind fun a6 =>
      (gx_fR h1 a6 1 1).bind fun a7 =>
      gx_bd (fX3_empty a7 h1) fun u9 h8 =>
      (gx_fR h8 v0 8 0).bind fun a10 =>
      (gx_fR h8 a10 1 0).bind fun a11 =>
      gx_bd (fX0_addPlayer a11 v1 h8) fun x13 h12 =>
      some (x13, h12)
    else
      gx_bd (fX10_refuse v0 (-4 : Int32) h1) fun x15 h14 =>
      some (x15, h14)
set_option maxRecDepth 100000 in
set_option maxHeartbeats 4000000 in
theorem geX10_player {E : gx_Env} {d : Nat} (v0 : Nat) (v1 : Int32) (h : gx_H) : gx_G E RX10 cX10_player 2 (some .int) false (d + 1) 0 0 0 [some (.ref v0), some (.int v1)] [] h (fun x : Int32 => some (.int x)) (fX10_player v0 v1 h) := by
  unfold fX10_player
  refine gx_bind fun _ _ => ?_
  refine gx_iload_n 1 dX10_player_0 rfl rfl ?_
  refine gx_iconst (0 : Int32) dX10_player_1 (by decide) ?_
  refine gx_iconst (5 : Int32) dX10_player_2 (by decide) ?_
  refine gx_callS (bc := 0) (bs := 0) (mc := 0) (ms := 0) (em' := (fun x : Int32 => some (.int x))) [.int v1, .int (0 : Int32), .int (5 : Int32)] kc_RX10_62 dX10_player_3 rfl rfl (gx_w8 rfl) (fun _ _ q => okX10_within d q) (fun x2 h1 => ?_)
  refine gx_if_ne 16 dX10_player_6 (by decide) (fun _ => ?_) (fun _ => ?_)
  · refine gx_aload_n 0 dX10_player_16 rfl rfl ?_
    refine gx_getR kf_RX10_10 dX10_player_17 (fun a3 => ?_)
    refine gx_getR kf_RX10_70 dX10_player_20 (fun a4 => ?_)
    refine gx_getI kf_RX10_74 dX10_player_23 (fun x5 => ?_)
    refine gx_iconst (4 : Int32) dX10_player_26 (by decide) ?_
    refine gx_icmp_lt 37 dX10_player_27 (by decide) (fun _ => ?_) (fun _ => ?_)
    · refine gx_aload_n 0 dX10_player_37 rfl rfl ?_
      refine gx_getR kf_RX10_10 dX10_player_38 (fun a6 => ?_)
      refine gx_getR kf_RX10_89 dX10_player_41 (fun a7 => ?_)
      refine gx_callV (ci := 3) (bc := 0) (bs := 0) (mc := 0) (ms := 0) (em' := (fun _ : Unit => none)) [] kc_RX10_93 rfl dX10_player_44 rfl rfl (gx_w8 rfl) (fun x q => (gx_isO_of (by unfold fX3_empty at q; exact q)).2) (fun _ _ q => okX3_empty d q) (fun u9 h8 => ?_)
      refine gx_aload_n 0 dX10_player_47 rfl rfl ?_
      refine gx_getR kf_RX10_10 dX10_player_48 (fun a10 => ?_)
      refine gx_getR kf_RX10_70 dX10_player_51 (fun a11 => ?_)
      refine gx_iload_n 1 dX10_player_54 rfl rfl ?_
      refine gx_callV (ci := 0) (bc := 0) (bs := 0) (mc := 0) (ms := 0) (em' := (fun x : Int32 => some (.int x))) [.int v1] kc_RX10_111 rfl dX10_player_55 rfl rfl (gx_w8 rfl) (fun x q => (gx_isO_of (by unfold fX0_addPlayer at q; exact q)).2) (fun _ _ q => okX0_addPlayer d q) (fun x13 h12 => ?_)
      exact gx_iret dX10_player_58 rfl
    · refine gx_aload_n 0 dX10_player_30 rfl rfl ?_
      refine gx_bipush (-4 : Int32) dX10_player_31 (by decide) ?_
      refine gx_callV (ci := 8) (bc := 0) (bs := 0) (mc := 0) (ms := 0) (em' := (fun x : Int32 => some (.int x))) [.int (-4 : Int32)] kc_RX10_66 rfl dX10_player_33 rfl rfl (gx_w8 rfl) (fun x q => (gx_isO_of (by unfold fX10_refuse at q; exact q)).2) (fun _ _ q => okX10_refuse d q) (fun x15 h14 => ?_)
      exact gx_iret dX10_player_36 rfl
  · refine gx_aload_n 0 dX10_player_9 rfl rfl ?_
    refine gx_bipush (-2 : Int32) dX10_player_10 (by decide) ?_
    refine gx_callV (ci := 8) (bc := 0) (bs := 0) (mc := 0) (ms := 0) (em' := (fun x : Int32 => some (.int x))) [.int (-2 : Int32)] kc_RX10_66 rfl dX10_player_12 rfl rfl (gx_w8 rfl) (fun x q => (gx_isO_of (by unfold fX10_refuse at q; exact q)).2) (fun _ _ q => okX10_refuse d q) (fun x17 h16 => ?_)
    exact gx_iret dX10_player_15 rfl
theorem okX10_player {E : gx_Env} (d : Nat) {v0 : Nat} {v1 : Int32} {h : gx_H} {r : Int32} {h1 : gx_H} (q : fX10_player v0 v1 h = some (r, h1)) : gx_M E yX10_player cX10_player 2 (some .int) (d + 1) 0 0 [.ref v0, .int v1] h ((fun x : Int32 => some (.int x)) r) h1 := gx_meth (y := yX10_player) (cc := cX10_player) (nL := 2) (em := (fun x : Int32 => some (.int x))) (ini := false) [.ref v0, .int v1] (by decide) (by simp [gx_sl]) (fun q => by cases q) (geX10_player v0 v1 h) q
theorem dX10_type_0 : decode cX10_type 0 = .ok (.iload_n 1, 1) := by decide +kernel
theorem dX10_type_1 : decode cX10_type 1 = .ok (.iconst 0, 1) := by decide +kernel
theorem dX10_type_2 : decode cX10_type 2 = .ok (.bipush 127, 2) := by decide +kernel
theorem dX10_type_4 : decode cX10_type 4 = .ok (.invokestatic 62, 3) := by decide +kernel
theorem dX10_type_7 : decode cX10_type 7 = .ok (.ifCond .ne 10, 3) := by decide +kernel
theorem dX10_type_10 : decode cX10_type 10 = .ok (.aload_n 0, 1) := by decide +kernel
theorem dX10_type_11 : decode cX10_type 11 = .ok (.bipush (-2), 2) := by decide +kernel
theorem dX10_type_13 : decode cX10_type 13 = .ok (.invokevirtual 66, 3) := by decide +kernel
theorem dX10_type_16 : decode cX10_type 16 = .ok (.ireturn, 1) := by decide +kernel
theorem dX10_type_17 : decode cX10_type 17 = .ok (.aload_n 0, 1) := by decide +kernel
theorem dX10_type_18 : decode cX10_type 18 = .ok (.getfield 27, 3) := by decide +kernel
theorem dX10_type_21 : decode cX10_type 21 = .ok (.getfield 114, 3) := by decide +kernel
theorem dX10_type_24 : decode cX10_type 24 = .ok (.sipush 150, 3) := by decide +kernel
theorem dX10_type_27 : decode cX10_type 27 = .ok (.if_icmp .lt 10, 3) := by decide +kernel
theorem dX10_type_30 : decode cX10_type 30 = .ok (.aload_n 0, 1) := by decide +kernel
theorem dX10_type_31 : decode cX10_type 31 = .ok (.bipush (-4), 2) := by decide +kernel
theorem dX10_type_33 : decode cX10_type 33 = .ok (.invokevirtual 66, 3) := by decide +kernel
theorem dX10_type_36 : decode cX10_type 36 = .ok (.ireturn, 1) := by decide +kernel
theorem dX10_type_37 : decode cX10_type 37 = .ok (.aload_n 0, 1) := by decide +kernel
theorem dX10_type_38 : decode cX10_type 38 = .ok (.getfield 27, 3) := by decide +kernel
theorem dX10_type_41 : decode cX10_type 41 = .ok (.iload_n 1, 1) := by decide +kernel
theorem dX10_type_42 : decode cX10_type 42 = .ok (.invokevirtual 115, 3) := by decide +kernel
theorem dX10_type_45 : decode cX10_type 45 = .ok (.ireturn, 1) := by decide +kernel
def fX10_type (v0 : Nat) (v1 : Int32) (h : gx_H) : Option (Int32 × gx_H) :=
  (gx_isO h v0 8).bind fun _ =>
  gx_bd (fX10_within v1 (0 : Int32) (127 : Int32) h) fun x2 h1 =>
  if x2 = 0 then
    gx_bd (fX10_refuse v0 (-2 : Int32) h1) fun x11 h10 =>
    some (x11, h10)
  else
    (gx_fR h1 v0 8 3).bind fun a3 =>
    (gx_fI h1 a3 7 0).bind fun x4 =>
    if x4 < (150 : Int32) then
      (gx_fR h1 v0 8 3).bind fun a5 =>
      gx_bd (fX9_append a5 v1 h1) fun x7 h6 =>
      some (x7, h6)
    else
      gx_bd (fX10_refuse v0 (-4 : Int32) h1) fun x9 h8 =>
      some (x9, h8)
set_option maxRecDepth 100000 in
set_option maxHeartbeats 4000000 in
theorem geX10_type {E : gx_Env} {d : Nat} (v0 : Nat) (v1 : Int32) (h : gx_H) : gx_G E RX10 cX10_type 2 (some .int) false (d + 1) 0 0 0 [some (.ref v0), some (.int v1)] [] h (fun x : Int32 => some (.int x)) (fX10_type v0 v1 h) := by
  unfold fX10_type
  refine gx_bind fun _ _ => ?_
  refine gx_iload_n 1 dX10_type_0 rfl rfl ?_
  refine gx_iconst (0 : Int32) dX10_type_1 (by decide) ?_
  refine gx_bipush (127 : Int32) dX10_type_2 (by decide) ?_
  refine gx_callS (bc := 0) (bs := 0) (mc := 0) (ms := 0) (em' := (fun x : Int32 => some (.int x))) [.int v1, .int (0 : Int32), .int (127 : Int32)] kc_RX10_62 dX10_type_4 rfl rfl (gx_w8 rfl) (fun _ _ q => okX10_within d q) (fun x2 h1 => ?_)
  refine gx_if_ne 17 dX10_type_7 (by decide) (fun _ => ?_) (fun _ => ?_)
  · refine gx_aload_n 0 dX10_type_17 rfl rfl ?_
    refine gx_getR kf_RX10_27 dX10_type_18 (fun a3 => ?_)
    refine gx_getI kf_RX10_114 dX10_type_21 (fun x4 => ?_)
    refine gx_sipush (150 : Int32) dX10_type_24 (by decide) ?_
    refine gx_icmp_lt 37 dX10_type_27 (by decide) (fun _ => ?_) (fun _ => ?_)
    · refine gx_aload_n 0 dX10_type_37 rfl rfl ?_
      refine gx_getR kf_RX10_27 dX10_type_38 (fun a5 => ?_)
      refine gx_iload_n 1 dX10_type_41 rfl rfl ?_
      refine gx_callV (ci := 7) (bc := 0) (bs := 0) (mc := 0) (ms := 0) (em' := (fun x : Int32 => some (.int x))) [.int v1] kc_RX10_115 rfl dX10_type_42 rfl rfl (gx_w8 rfl) (fun x q => (gx_isO_of (by unfold fX9_append at q; exact q)).2) (fun _ _ q => okX9_append d q) (fun x7 h6 => ?_)
      exact gx_iret dX10_type_45 rfl
    · refine gx_aload_n 0 dX10_type_30 rfl rfl ?_
      refine gx_bipush (-4 : Int32) dX10_type_31 (by decide) ?_
      refine gx_callV (ci := 8) (bc := 0) (bs := 0) (mc := 0) (ms := 0) (em' := (fun x : Int32 => some (.int x))) [.int (-4 : Int32)] kc_RX10_66 rfl dX10_type_33 rfl rfl (gx_w8 rfl) (fun x q => (gx_isO_of (by unfold fX10_refuse at q; exact q)).2) (fun _ _ q => okX10_refuse d q) (fun x9 h8 => ?_)
      exact gx_iret dX10_type_36 rfl
  · refine gx_aload_n 0 dX10_type_10 rfl rfl ?_
    refine gx_bipush (-2 : Int32) dX10_type_11 (by decide) ?_
    refine gx_callV (ci := 8) (bc := 0) (bs := 0) (mc := 0) (ms := 0) (em' := (fun x : Int32 => some (.int x))) [.int (-2 : Int32)] kc_RX10_66 rfl dX10_type_13 rfl rfl (gx_w8 rfl) (fun x q => (gx_isO_of (by unfold fX10_refuse at q; exact q)).2) (fun _ _ q => okX10_refuse d q) (fun x11 h10 => ?_)
    exact gx_iret dX10_type_16 rfl
theorem okX10_type {E : gx_Env} (d : Nat) {v0 : Nat} {v1 : Int32} {h : gx_H} {r : Int32} {h1 : gx_H} (q : fX10_type v0 v1 h = some (r, h1)) : gx_M E yX10_type cX10_type 2 (some .int) (d + 1) 0 0 [.ref v0, .int v1] h ((fun x : Int32 => some (.int x)) r) h1 := gx_meth (y := yX10_type) (cc := cX10_type) (nL := 2) (em := (fun x : Int32 => some (.int x))) (ini := false) [.ref v0, .int v1] (by decide) (by simp [gx_sl]) (fun q => by cases q) (geX10_type v0 v1 h) q
theorem dX10_clear_0 : decode cX10_clear 0 = .ok (.aload_n 0, 1) := by decide +kernel
theorem dX10_clear_1 : decode cX10_clear 1 = .ok (.getfield 27, 3) := by decide +kernel
theorem dX10_clear_4 : decode cX10_clear 4 = .ok (.invokevirtual 118, 3) := by decide +kernel
theorem dX10_clear_7 : decode cX10_clear 7 = .ok (.ireturn, 1) := by decide +kernel
def fX10_clear (v0 : Nat) (h : gx_H) : Option (Int32 × gx_H) :=
  (gx_isO h v0 8).bind fun _ =>
  (gx_fR h v0 8 3).bind fun a1 =>
  gx_bd (fX9_empty a1 h) fun x3 h2 =>
  some (x3, h2)
set_option maxRecDepth 100000 in
set_option maxHeartbeats 4000000 in
theorem geX10_clear {E : gx_Env} {d : Nat} (v0 : Nat) (h : gx_H) : gx_G E RX10 cX10_clear 1 (some .int) false (d + 1) 0 0 0 [some (.ref v0)] [] h (fun x : Int32 => some (.int x)) (fX10_clear v0 h) := by
  unfold fX10_clear
  refine gx_bind fun _ _ => ?_
  refine gx_aload_n 0 dX10_clear_0 rfl rfl ?_
  refine gx_getR kf_RX10_27 dX10_clear_1 (fun a1 => ?_)
  refine gx_callV (ci := 7) (bc := 0) (bs := 0) (mc := 0) (ms := 0) (em' := (fun x : Int32 => some (.int x))) [] kc_RX10_118 rfl dX10_clear_4 rfl rfl (gx_w8 rfl) (fun x q => (gx_isO_of (by unfold fX9_empty at q; exact q)).2) (fun _ _ q => okX9_empty d q) (fun x3 h2 => ?_)
  exact gx_iret dX10_clear_7 rfl
theorem okX10_clear {E : gx_Env} (d : Nat) {v0 : Nat} {h : gx_H} {r : Int32} {h1 : gx_H} (q : fX10_clear v0 h = some (r, h1)) : gx_M E yX10_clear cX10_clear 1 (some .int) (d + 1) 0 0 [.ref v0] h ((fun x : Int32 => some (.int x)) r) h1 := gx_meth (y := yX10_clear) (cc := cX10_clear) (nL := 1) (em := (fun x : Int32 => some (.int x))) (ini := false) [.ref v0] (by decide) (by simp [gx_sl]) (fun q => by cases q) (geX10_clear v0 h) q
theorem dX10_read_0 : decode cX10_read 0 = .ok (.aload_n 0, 1) := by decide +kernel
theorem dX10_read_1 : decode cX10_read 1 = .ok (.getfield 27, 3) := by decide +kernel
theorem dX10_read_4 : decode cX10_read 4 = .ok (.invokevirtual 121, 3) := by decide +kernel
theorem dX10_read_7 : decode cX10_read 7 = .ok (.istore_n 1, 1) := by decide +kernel
theorem dX10_read_8 : decode cX10_read 8 = .ok (.iload_n 1, 1) := by decide +kernel
theorem dX10_read_9 : decode cX10_read 9 = .ok (.iconst (-1), 1) := by decide +kernel
theorem dX10_read_10 : decode cX10_read 10 = .ok (.if_icmp .ne 14, 3) := by decide +kernel
theorem dX10_read_13 : decode cX10_read 13 = .ok (.bipush (-10), 2) := by decide +kernel
theorem dX10_read_15 : decode cX10_read 15 = .ok (.aload_n 0, 1) := by decide +kernel
theorem dX10_read_16 : decode cX10_read 16 = .ok (.getfield 27, 3) := by decide +kernel
theorem dX10_read_19 : decode cX10_read 19 = .ok (.invokevirtual 124, 3) := by decide +kernel
theorem dX10_read_22 : decode cX10_read 22 = .ok (.isub, 1) := by decide +kernel
theorem dX10_read_23 : decode cX10_read 23 = .ok (.ireturn, 1) := by decide +kernel
theorem dX10_read_24 : decode cX10_read 24 = .ok (.aload_n 0, 1) := by decide +kernel
theorem dX10_read_25 : decode cX10_read 25 = .ok (.getfield 10, 3) := by decide +kernel
theorem dX10_read_28 : decode cX10_read 28 = .ok (.invokevirtual 79, 3) := by decide +kernel
theorem dX10_read_31 : decode cX10_read 31 = .ok (.aload_n 0, 1) := by decide +kernel
theorem dX10_read_32 : decode cX10_read 32 = .ok (.getfield 10, 3) := by decide +kernel
theorem dX10_read_35 : decode cX10_read 35 = .ok (.getfield 70, 3) := by decide +kernel
theorem dX10_read_38 : decode cX10_read 38 = .ok (.aload_n 0, 1) := by decide +kernel
theorem dX10_read_39 : decode cX10_read 39 = .ok (.getfield 27, 3) := by decide +kernel
theorem dX10_read_42 : decode cX10_read 42 = .ok (.getfield 127, 3) := by decide +kernel
theorem dX10_read_45 : decode cX10_read 45 = .ok (.invokevirtual 130, 3) := by decide +kernel
theorem dX10_read_48 : decode cX10_read 48 = .ok (.iload_n 1, 1) := by decide +kernel
theorem dX10_read_49 : decode cX10_read 49 = .ok (.ireturn, 1) := by decide +kernel
def fX10_read (v0 : Nat) (h : gx_H) : Option (Int32 × gx_H) :=
  (gx_isO h v0 8).bind fun _ =>
  (gx_fR h v0 8 3).bind fun a1 =>
  gx_bd (fX9_readItems a1 h) fun x3 h2 =>
  if x3 = (-1 : Int32) then
    (gx_fR h2 v0 8 3).bind fun a13 =>
    gx_bd (fX9_fault a13 h2) fun x15 h14 =>
    some (((-10 : Int32) - x15), h14)
  else
    (gx_fR h2 v0 8 0).bind fun a4 =>
    gx_bd (fX1_dropPast a4 h2) fun u6 h5 =>
    (gx_fR h5 v0 8 0).bind fun a7 =>
    (gx_fR h5 a7 1 0).bind fun a8 =>
    (gx_fR h5 v0 8 3).bind fun a9 =>
    (gx_fR h5 a9 7 1).bind fun a10 =>
    gx_bd (fX0_copy a8 a10 h5) fun u12 h11 =>
    some (x3, h11)
set_option maxRecDepth 100000 in
set_option maxHeartbeats 4000000 in
theorem geX10_read {E : gx_Env} {d : Nat} (v0 : Nat) (h : gx_H) : gx_G E RX10 cX10_read 2 (some .int) false (d + 7) 0 0 0 [some (.ref v0), none] [] h (fun x : Int32 => some (.int x)) (fX10_read v0 h) := by
  unfold fX10_read
  refine gx_bind fun _ _ => ?_
  refine gx_aload_n 0 dX10_read_0 rfl rfl ?_
  refine gx_getR kf_RX10_27 dX10_read_1 (fun a1 => ?_)
  refine gx_callV (ci := 7) (bc := 0) (bs := 0) (mc := 0) (ms := 0) (em' := (fun x : Int32 => some (.int x))) [] kc_RX10_121 rfl dX10_read_4 rfl rfl (gx_w8 rfl) (fun x q => (gx_isO_of (by unfold fX9_readItems at q; exact q)).2) (fun _ _ q => okX9_readItems d q) (fun x3 h2 => ?_)
  refine gx_istore_n 1 [some (.ref v0), some (.int x3)] dX10_read_7 rfl (by decide) rfl ?_
  refine gx_iload_n 1 dX10_read_8 rfl rfl ?_
  refine gx_iconst (-1 : Int32) dX10_read_9 (by decide) ?_
  refine gx_icmp_ne 24 dX10_read_10 (by decide) (fun _ => ?_) (fun _ => ?_)
  · refine gx_aload_n 0 dX10_read_24 rfl rfl ?_
    refine gx_getR kf_RX10_10 dX10_read_25 (fun a4 => ?_)
    refine gx_callV (ci := 1) (bc := 0) (bs := 0) (mc := 0) (ms := 0) (em' := (fun _ : Unit => none)) [] kc_RX10_79 rfl dX10_read_28 rfl rfl (gx_w8 rfl) (fun x q => (gx_isO_of (by unfold fX1_dropPast at q; exact q)).2) (fun _ _ q => okX1_dropPast (d + 5) q) (fun u6 h5 => ?_)
    refine gx_aload_n 0 dX10_read_31 rfl rfl ?_
    refine gx_getR kf_RX10_10 dX10_read_32 (fun a7 => ?_)
    refine gx_getR kf_RX10_70 dX10_read_35 (fun a8 => ?_)
    refine gx_aload_n 0 dX10_read_38 rfl rfl ?_
    refine gx_getR kf_RX10_27 dX10_read_39 (fun a9 => ?_)
    refine gx_getR kf_RX10_127 dX10_read_42 (fun a10 => ?_)
    refine gx_callV (ci := 0) (bc := 0) (bs := 0) (mc := 0) (ms := 0) (em' := (fun _ : Unit => none)) [.ref a10] kc_RX10_130 rfl dX10_read_45 rfl rfl (gx_w8 rfl) (fun x q => (gx_isO_of (by unfold fX0_copy at q; exact q)).2) (fun _ _ q => okX0_copy (d + 6) q) (fun u12 h11 => ?_)
    refine gx_iload_n 1 dX10_read_48 rfl rfl ?_
    exact gx_iret dX10_read_49 rfl
  · refine gx_bipush (-10 : Int32) dX10_read_13 (by decide) ?_
    refine gx_aload_n 0 dX10_read_15 rfl rfl ?_
    refine gx_getR kf_RX10_27 dX10_read_16 (fun a13 => ?_)
    refine gx_callV (ci := 7) (bc := 0) (bs := 0) (mc := 0) (ms := 0) (em' := (fun x : Int32 => some (.int x))) [] kc_RX10_124 rfl dX10_read_19 rfl rfl (gx_w8 rfl) (fun x q => (gx_isO_of (by unfold fX9_fault at q; exact q)).2) (fun _ _ q => okX9_fault (d + 6) q) (fun x15 h14 => ?_)
    refine gx_isub dX10_read_22 ?_
    exact gx_iret dX10_read_23 rfl
theorem okX10_read {E : gx_Env} (d : Nat) {v0 : Nat} {h : gx_H} {r : Int32} {h1 : gx_H} (q : fX10_read v0 h = some (r, h1)) : gx_M E yX10_read cX10_read 2 (some .int) (d + 7) 0 0 [.ref v0] h ((fun x : Int32 => some (.int x)) r) h1 := gx_meth (y := yX10_read) (cc := cX10_read) (nL := 2) (em := (fun x : Int32 => some (.int x))) (ini := false) [.ref v0] (by decide) (by simp [gx_sl]) (fun q => by cases q) (geX10_read v0 h) q
theorem dX10_isPlayer_0 : decode cX10_isPlayer 0 = .ok (.iload_n 1, 1) := by decide +kernel
theorem dX10_isPlayer_1 : decode cX10_isPlayer 1 = .ok (.iconst 0, 1) := by decide +kernel
theorem dX10_isPlayer_2 : decode cX10_isPlayer 2 = .ok (.aload_n 0, 1) := by decide +kernel
theorem dX10_isPlayer_3 : decode cX10_isPlayer 3 = .ok (.getfield 10, 3) := by decide +kernel
theorem dX10_isPlayer_6 : decode cX10_isPlayer 6 = .ok (.getfield 70, 3) := by decide +kernel
theorem dX10_isPlayer_9 : decode cX10_isPlayer 9 = .ok (.getfield 74, 3) := by decide +kernel
theorem dX10_isPlayer_12 : decode cX10_isPlayer 12 = .ok (.iconst 1, 1) := by decide +kernel
theorem dX10_isPlayer_13 : decode cX10_isPlayer 13 = .ok (.isub, 1) := by decide +kernel
theorem dX10_isPlayer_14 : decode cX10_isPlayer 14 = .ok (.invokestatic 62, 3) := by decide +kernel
theorem dX10_isPlayer_17 : decode cX10_isPlayer 17 = .ok (.ireturn, 1) := by decide +kernel
def fX10_isPlayer (v0 : Nat) (v1 : Int32) (h : gx_H) : Option (Int32 × gx_H) :=
  (gx_isO h v0 8).bind fun _ =>
  (gx_fR h v0 8 0).bind fun a1 =>
  (gx_fR h a1 1 0).bind fun a2 =>
  (gx_fI h a2 0 3).bind fun x3 =>
  gx_bd (fX10_within v1 (0 : Int32) (x3 - (1 : Int32)) h) fun x5 h4 =>
  gx_ret .boolean x5 h4
set_option maxRecDepth 100000 in
set_option maxHeartbeats 4000000 in
theorem geX10_isPlayer {E : gx_Env} {d : Nat} (v0 : Nat) (v1 : Int32) (h : gx_H) : gx_G E RX10 cX10_isPlayer 2 (some .boolean) false (d + 1) 0 0 0 [some (.ref v0), some (.int v1)] [] h (fun x : Int32 => some (.int x)) (fX10_isPlayer v0 v1 h) := by
  unfold fX10_isPlayer
  refine gx_bind fun _ _ => ?_
  refine gx_iload_n 1 dX10_isPlayer_0 rfl rfl ?_
  refine gx_iconst (0 : Int32) dX10_isPlayer_1 (by decide) ?_
  refine gx_aload_n 0 dX10_isPlayer_2 rfl rfl ?_
  refine gx_getR kf_RX10_10 dX10_isPlayer_3 (fun a1 => ?_)
  refine gx_getR kf_RX10_70 dX10_isPlayer_6 (fun a2 => ?_)
  refine gx_getI kf_RX10_74 dX10_isPlayer_9 (fun x3 => ?_)
  refine gx_iconst (1 : Int32) dX10_isPlayer_12 (by decide) ?_
  refine gx_isub dX10_isPlayer_13 ?_
  refine gx_callS (bc := 0) (bs := 0) (mc := 0) (ms := 0) (em' := (fun x : Int32 => some (.int x))) [.int v1, .int (0 : Int32), .int (x3 - (1 : Int32))] kc_RX10_62 dX10_isPlayer_14 rfl rfl (gx_w8 rfl) (fun _ _ q => okX10_within d q) (fun x5 h4 => ?_)
  exact gx_zret dX10_isPlayer_17 rfl
theorem okX10_isPlayer {E : gx_Env} (d : Nat) {v0 : Nat} {v1 : Int32} {h : gx_H} {r : Int32} {h1 : gx_H} (q : fX10_isPlayer v0 v1 h = some (r, h1)) : gx_M E yX10_isPlayer cX10_isPlayer 2 (some .boolean) (d + 1) 0 0 [.ref v0, .int v1] h ((fun x : Int32 => some (.int x)) r) h1 := gx_meth (y := yX10_isPlayer) (cc := cX10_isPlayer) (nL := 2) (em := (fun x : Int32 => some (.int x))) (ini := false) [.ref v0, .int v1] (by decide) (by simp [gx_sl]) (fun q => by cases q) (geX10_isPlayer v0 v1 h) q
theorem dX10_rolls_0 : decode cX10_rolls 0 = .ok (.aload_n 0, 1) := by decide +kernel
theorem dX10_rolls_1 : decode cX10_rolls 1 = .ok (.iload_n 1, 1) := by decide +kernel
theorem dX10_rolls_2 : decode cX10_rolls 2 = .ok (.invokevirtual 134, 3) := by decide +kernel
theorem dX10_rolls_5 : decode cX10_rolls 5 = .ok (.ifCond .eq 21, 3) := by decide +kernel
theorem dX10_rolls_8 : decode cX10_rolls 8 = .ok (.iload_n 2, 1) := by decide +kernel
theorem dX10_rolls_9 : decode cX10_rolls 9 = .ok (.iconst 1, 1) := by decide +kernel
theorem dX10_rolls_10 : decode cX10_rolls 10 = .ok (.aload_n 0, 1) := by decide +kernel
theorem dX10_rolls_11 : decode cX10_rolls 11 = .ok (.getfield 10, 3) := by decide +kernel
theorem dX10_rolls_14 : decode cX10_rolls 14 = .ok (.getfield 70, 3) := by decide +kernel
theorem dX10_rolls_17 : decode cX10_rolls 17 = .ok (.getfield 86, 3) := by decide +kernel
theorem dX10_rolls_20 : decode cX10_rolls 20 = .ok (.invokestatic 62, 3) := by decide +kernel
theorem dX10_rolls_23 : decode cX10_rolls 23 = .ok (.ifCond .ne 10, 3) := by decide +kernel
theorem dX10_rolls_26 : decode cX10_rolls 26 = .ok (.aload_n 0, 1) := by decide +kernel
theorem dX10_rolls_27 : decode cX10_rolls 27 = .ok (.bipush (-2), 2) := by decide +kernel
theorem dX10_rolls_29 : decode cX10_rolls 29 = .ok (.invokevirtual 66, 3) := by decide +kernel
theorem dX10_rolls_32 : decode cX10_rolls 32 = .ok (.ireturn, 1) := by decide +kernel
theorem dX10_rolls_33 : decode cX10_rolls 33 = .ok (.aload_n 0, 1) := by decide +kernel
theorem dX10_rolls_34 : decode cX10_rolls 34 = .ok (.getfield 10, 3) := by decide +kernel
theorem dX10_rolls_37 : decode cX10_rolls 37 = .ok (.getfield 70, 3) := by decide +kernel
theorem dX10_rolls_40 : decode cX10_rolls 40 = .ok (.iload_n 1, 1) := by decide +kernel
theorem dX10_rolls_41 : decode cX10_rolls 41 = .ok (.invokevirtual 138, 3) := by decide +kernel
theorem dX10_rolls_44 : decode cX10_rolls 44 = .ok (.ifCond .eq 10, 3) := by decide +kernel
theorem dX10_rolls_47 : decode cX10_rolls 47 = .ok (.aload_n 0, 1) := by decide +kernel
theorem dX10_rolls_48 : decode cX10_rolls 48 = .ok (.bipush (-3), 2) := by decide +kernel
theorem dX10_rolls_50 : decode cX10_rolls 50 = .ok (.invokevirtual 66, 3) := by decide +kernel
theorem dX10_rolls_53 : decode cX10_rolls 53 = .ok (.ireturn, 1) := by decide +kernel
theorem dX10_rolls_54 : decode cX10_rolls 54 = .ok (.aload_n 0, 1) := by decide +kernel
theorem dX10_rolls_55 : decode cX10_rolls 55 = .ok (.getfield 10, 3) := by decide +kernel
theorem dX10_rolls_58 : decode cX10_rolls 58 = .ok (.getfield 70, 3) := by decide +kernel
theorem dX10_rolls_61 : decode cX10_rolls 61 = .ok (.iload_n 1, 1) := by decide +kernel
theorem dX10_rolls_62 : decode cX10_rolls 62 = .ok (.iload_n 2, 1) := by decide +kernel
theorem dX10_rolls_63 : decode cX10_rolls 63 = .ok (.aload_n 0, 1) := by decide +kernel
theorem dX10_rolls_64 : decode cX10_rolls 64 = .ok (.getfield 10, 3) := by decide +kernel
theorem dX10_rolls_67 : decode cX10_rolls 67 = .ok (.getfield 89, 3) := by decide +kernel
theorem dX10_rolls_70 : decode cX10_rolls 70 = .ok (.invokevirtual 141, 3) := by decide +kernel
theorem dX10_rolls_73 : decode cX10_rolls 73 = .ok (.invokevirtual 145, 3) := by decide +kernel
theorem dX10_rolls_76 : decode cX10_rolls 76 = .ok (.aload_n 0, 1) := by decide +kernel
theorem dX10_rolls_77 : decode cX10_rolls 77 = .ok (.getfield 10, 3) := by decide +kernel
theorem dX10_rolls_80 : decode cX10_rolls 80 = .ok (.getfield 70, 3) := by decide +kernel
theorem dX10_rolls_83 : decode cX10_rolls 83 = .ok (.getfield 149, 3) := by decide +kernel
theorem dX10_rolls_86 : decode cX10_rolls 86 = .ok (.iload_n 1, 1) := by decide +kernel
theorem dX10_rolls_87 : decode cX10_rolls 87 = .ok (.iaload, 1) := by decide +kernel
theorem dX10_rolls_88 : decode cX10_rolls 88 = .ok (.ireturn, 1) := by decide +kernel
def fX10_rolls_26 (v0 : Nat) (h : gx_H) : Option (Int32 × gx_H) :=
  gx_bd (fX10_refuse v0 (-2 : Int32) h) fun x27 h26 =>
  some (x27, h26)
def fX10_rolls (v0 : Nat) (v1 : Int32) (v2 : Int32) (h : gx_H) : Option (Int32 × gx_H) :=
  (gx_isO h v0 8).bind fun _ =>
  gx_bd (fX10_isPlayer v0 v1 h) fun x2 h1 =>
  if x2 = 0 then
    fX10_rolls_26 v0 h1
  else
    (gx_fR h1 v0 8 0).bind fun a3 =>
    (gx_fR h1 a3 1 0).bind fun a4 =>
    (gx_fI h1 a4 0 1).bind fun x5 =>
    gx_bd (fX10_within v2 (1 : Int32) x5 h1) fun x7 h6 =>
    if x7 = 0 then
      fX10_rolls_26 v0 h6
    else
      (gx_fR h6 v0 8 0).bind fun a8 =>
      (gx_fR h6 a8 1 0).bind fun a9 =>
      gx_bd (fX0_isHome a9 v1 h6) fun x11 h10 =>
      if x11 = 0 then
        (gx_fR h10 v0 8 0).bind fun a12 =>
        (gx_fR h10 a12 1 0).bind fun a13 =>
        (gx_fR h10 v0 8 0).bind fun a14 =>
        (gx_fR h10 a14 1 1).bind fun a15 =>
        gx_bd (fX3_nextStep a15 h10) fun a17 h16 =>
        gx_bd (fX0_move a13 v1 v2 a17 h16) fun u19 h18 =>
        (gx_fR h18 v0 8 0).bind fun a20 =>
        (gx_fR h18 a20 1 0).bind fun a21 =>
        (gx_fR h18 a21 0 9).bind fun a22 =>
        (gx_aI 0 h18 a22 v1).bind fun x23 =>
        some (x23, h18)
      else
        gx_bd (fX10_refuse v0 (-3 : Int32) h10) fun x25 h24 =>
        some (x25, h24)
set_option maxRecDepth 100000 in
set_option maxHeartbeats 4000000 in
theorem gX10_rolls_26 {E : gx_Env} {d : Nat}  : ∀ (v0 : Nat) (h : gx_H), gx_G E RX10 cX10_rolls 3 (some .int) false (d + 4) 0 0 26 [some (.ref v0), none, none] [] h (fun x : Int32 => some (.int x)) (fX10_rolls_26 v0 h) := by
  intro v0 h
  unfold fX10_rolls_26
  refine gx_aload_n 0 dX10_rolls_26 rfl rfl ?_
  refine gx_bipush (-2 : Int32) dX10_rolls_27 (by decide) ?_
  refine gx_callV (ci := 8) (bc := 0) (bs := 0) (mc := 0) (ms := 0) (em' := (fun x : Int32 => some (.int x))) [.int (-2 : Int32)] kc_RX10_66 rfl dX10_rolls_29 rfl rfl (gx_w8 rfl) (fun x q => (gx_isO_of (by unfold fX10_refuse at q; exact q)).2) (fun _ _ q => okX10_refuse (d + 3) q) (fun x27 h26 => ?_)
  exact gx_iret dX10_rolls_32 rfl
set_option maxRecDepth 100000 in
set_option maxHeartbeats 4000000 in
theorem geX10_rolls {E : gx_Env} {d : Nat} (v0 : Nat) (v1 : Int32) (v2 : Int32) (h : gx_H) : gx_G E RX10 cX10_rolls 3 (some .int) false (d + 4) 0 0 0 [some (.ref v0), some (.int v1), some (.int v2)] [] h (fun x : Int32 => some (.int x)) (fX10_rolls v0 v1 v2 h) := by
  unfold fX10_rolls
  refine gx_bind fun _ _ => ?_
  refine gx_aload_n 0 dX10_rolls_0 rfl rfl ?_
  refine gx_iload_n 1 dX10_rolls_1 rfl rfl ?_
  refine gx_callV (ci := 8) (bc := 0) (bs := 0) (mc := 0) (ms := 0) (em' := (fun x : Int32 => some (.int x))) [.int v1] kc_RX10_134 rfl dX10_rolls_2 rfl rfl (gx_w8 rfl) (fun x q => (gx_isO_of (by unfold fX10_isPlayer at q; exact q)).2) (fun _ _ q => okX10_isPlayer (d + 2) q) (fun x2 h1 => ?_)
  refine gx_if_eq 26 dX10_rolls_5 (by decide) (fun _ => ?_) (fun _ => ?_)
  · exact gx_sub (gX10_rolls_26 v0 h1) (And.intro rfl True.intro)
  · refine gx_iload_n 2 dX10_rolls_8 rfl rfl ?_
    refine gx_iconst (1 : Int32) dX10_rolls_9 (by decide) ?_
    refine gx_aload_n 0 dX10_rolls_10 rfl rfl ?_
    refine gx_getR kf_RX10_10 dX10_rolls_11 (fun a3 => ?_)
    refine gx_getR kf_RX10_70 dX10_rolls_14 (fun a4 => ?_)
    refine gx_getI kf_RX10_86 dX10_rolls_17 (fun x5 => ?_)
    refine gx_callS (bc := 0) (bs := 0) (mc := 0) (ms := 0) (em' := (fun x : Int32 => some (.int x))) [.int v2, .int (1 : Int32), .int x5] kc_RX10_62 dX10_rolls_20 rfl rfl (gx_w8 rfl) (fun _ _ q => okX10_within (d + 3) q) (fun x7 h6 => ?_)
    refine gx_if_ne 33 dX10_rolls_23 (by decide) (fun _ => ?_) (fun _ => ?_)
    · refine gx_aload_n 0 dX10_rolls_33 rfl rfl ?_
      refine gx_getR kf_RX10_10 dX10_rolls_34 (fun a8 => ?_)
      refine gx_getR kf_RX10_70 dX10_rolls_37 (fun a9 => ?_)
      refine gx_iload_n 1 dX10_rolls_40 rfl rfl ?_
      refine gx_callV (ci := 0) (bc := 0) (bs := 0) (mc := 0) (ms := 0) (em' := (fun x : Int32 => some (.int x))) [.int v1] kc_RX10_138 rfl dX10_rolls_41 rfl rfl (gx_w8 rfl) (fun x q => (gx_isO_of (by unfold fX0_isHome at q; exact q)).2) (fun _ _ q => okX0_isHome (d + 3) q) (fun x11 h10 => ?_)
      refine gx_if_eq 54 dX10_rolls_44 (by decide) (fun _ => ?_) (fun _ => ?_)
      · refine gx_aload_n 0 dX10_rolls_54 rfl rfl ?_
        refine gx_getR kf_RX10_10 dX10_rolls_55 (fun a12 => ?_)
        refine gx_getR kf_RX10_70 dX10_rolls_58 (fun a13 => ?_)
        refine gx_iload_n 1 dX10_rolls_61 rfl rfl ?_
        refine gx_iload_n 2 dX10_rolls_62 rfl rfl ?_
        refine gx_aload_n 0 dX10_rolls_63 rfl rfl ?_
        refine gx_getR kf_RX10_10 dX10_rolls_64 (fun a14 => ?_)
        refine gx_getR kf_RX10_89 dX10_rolls_67 (fun a15 => ?_)
        refine gx_callV (ci := 3) (bc := 0) (bs := 0) (mc := 0) (ms := 0) (em' := (fun x : Nat => some (.ref x))) [] kc_RX10_141 rfl dX10_rolls_70 rfl rfl (gx_w8 rfl) (fun x q => (gx_isO_of (by unfold fX3_nextStep at q; exact q)).2) (fun _ _ q => okX3_nextStep (d + 2) q) (fun a17 h16 => ?_)
        refine gx_callV (ci := 0) (bc := 0) (bs := 0) (mc := 0) (ms := 0) (em' := (fun _ : Unit => none)) [.int v1, .int v2, .ref a17] kc_RX10_145 rfl dX10_rolls_73 rfl rfl (gx_w8 rfl) (fun x q => (gx_isO_of (by unfold fX0_move at q; exact q)).2) (fun _ _ q => okX0_move d q) (fun u19 h18 => ?_)
        refine gx_aload_n 0 dX10_rolls_76 rfl rfl ?_
        refine gx_getR kf_RX10_10 dX10_rolls_77 (fun a20 => ?_)
        refine gx_getR kf_RX10_70 dX10_rolls_80 (fun a21 => ?_)
        refine gx_getR kf_RX10_149 dX10_rolls_83 (fun a22 => ?_)
        refine gx_iload_n 1 dX10_rolls_86 rfl rfl ?_
        refine gx_iald dX10_rolls_87 (fun x23 => ?_)
        exact gx_iret dX10_rolls_88 rfl
      · refine gx_aload_n 0 dX10_rolls_47 rfl rfl ?_
        refine gx_bipush (-3 : Int32) dX10_rolls_48 (by decide) ?_
        refine gx_callV (ci := 8) (bc := 0) (bs := 0) (mc := 0) (ms := 0) (em' := (fun x : Int32 => some (.int x))) [.int (-3 : Int32)] kc_RX10_66 rfl dX10_rolls_50 rfl rfl (gx_w8 rfl) (fun x q => (gx_isO_of (by unfold fX10_refuse at q; exact q)).2) (fun _ _ q => okX10_refuse (d + 3) q) (fun x25 h24 => ?_)
        exact gx_iret dX10_rolls_53 rfl
    · exact gx_sub (gX10_rolls_26 v0 h6) (And.intro rfl True.intro)
theorem okX10_rolls {E : gx_Env} (d : Nat) {v0 : Nat} {v1 : Int32} {v2 : Int32} {h : gx_H} {r : Int32} {h1 : gx_H} (q : fX10_rolls v0 v1 v2 h = some (r, h1)) : gx_M E yX10_rolls cX10_rolls 3 (some .int) (d + 4) 0 0 [.ref v0, .int v1, .int v2] h ((fun x : Int32 => some (.int x)) r) h1 := gx_meth (y := yX10_rolls) (cc := cX10_rolls) (nL := 3) (em := (fun x : Int32 => some (.int x))) (ini := false) [.ref v0, .int v1, .int v2] (by decide) (by simp [gx_sl]) (fun q => by cases q) (geX10_rolls v0 v1 v2 h) q
theorem dX10_sets_0 : decode cX10_sets 0 = .ok (.aload_n 0, 1) := by decide +kernel
theorem dX10_sets_1 : decode cX10_sets 1 = .ok (.iload_n 1, 1) := by decide +kernel
theorem dX10_sets_2 : decode cX10_sets 2 = .ok (.invokevirtual 134, 3) := by decide +kernel
theorem dX10_sets_5 : decode cX10_sets 5 = .ok (.ifCond .eq 21, 3) := by decide +kernel
theorem dX10_sets_8 : decode cX10_sets 8 = .ok (.iload_n 2, 1) := by decide +kernel
theorem dX10_sets_9 : decode cX10_sets 9 = .ok (.iconst 0, 1) := by decide +kernel
theorem dX10_sets_10 : decode cX10_sets 10 = .ok (.aload_n 0, 1) := by decide +kernel
theorem dX10_sets_11 : decode cX10_sets 11 = .ok (.getfield 10, 3) := by decide +kernel
theorem dX10_sets_14 : decode cX10_sets 14 = .ok (.getfield 70, 3) := by decide +kernel
theorem dX10_sets_17 : decode cX10_sets 17 = .ok (.getfield 98, 3) := by decide +kernel
theorem dX10_sets_20 : decode cX10_sets 20 = .ok (.invokestatic 62, 3) := by decide +kernel
theorem dX10_sets_23 : decode cX10_sets 23 = .ok (.ifCond .ne 10, 3) := by decide +kernel
theorem dX10_sets_26 : decode cX10_sets 26 = .ok (.aload_n 0, 1) := by decide +kernel
theorem dX10_sets_27 : decode cX10_sets 27 = .ok (.bipush (-2), 2) := by decide +kernel
theorem dX10_sets_29 : decode cX10_sets 29 = .ok (.invokevirtual 66, 3) := by decide +kernel
theorem dX10_sets_32 : decode cX10_sets 32 = .ok (.ireturn, 1) := by decide +kernel
theorem dX10_sets_33 : decode cX10_sets 33 = .ok (.aload_n 0, 1) := by decide +kernel
theorem dX10_sets_34 : decode cX10_sets 34 = .ok (.getfield 10, 3) := by decide +kernel
theorem dX10_sets_37 : decode cX10_sets 37 = .ok (.getfield 70, 3) := by decide +kernel
theorem dX10_sets_40 : decode cX10_sets 40 = .ok (.getfield 149, 3) := by decide +kernel
theorem dX10_sets_43 : decode cX10_sets 43 = .ok (.iload_n 1, 1) := by decide +kernel
theorem dX10_sets_44 : decode cX10_sets 44 = .ok (.iaload, 1) := by decide +kernel
theorem dX10_sets_45 : decode cX10_sets 45 = .ok (.istore_n 3, 1) := by decide +kernel
theorem dX10_sets_46 : decode cX10_sets 46 = .ok (.iload_n 3, 1) := by decide +kernel
theorem dX10_sets_47 : decode cX10_sets 47 = .ok (.iload_n 2, 1) := by decide +kernel
theorem dX10_sets_48 : decode cX10_sets 48 = .ok (.if_icmp .ne 10, 3) := by decide +kernel
theorem dX10_sets_51 : decode cX10_sets 51 = .ok (.aload_n 0, 1) := by decide +kernel
theorem dX10_sets_52 : decode cX10_sets 52 = .ok (.bipush (-3), 2) := by decide +kernel
theorem dX10_sets_54 : decode cX10_sets 54 = .ok (.invokevirtual 66, 3) := by decide +kernel
theorem dX10_sets_57 : decode cX10_sets 57 = .ok (.ireturn, 1) := by decide +kernel
theorem dX10_sets_58 : decode cX10_sets 58 = .ok (.aload_n 0, 1) := by decide +kernel
theorem dX10_sets_59 : decode cX10_sets 59 = .ok (.getfield 10, 3) := by decide +kernel
theorem dX10_sets_62 : decode cX10_sets 62 = .ok (.getfield 70, 3) := by decide +kernel
theorem dX10_sets_65 : decode cX10_sets 65 = .ok (.iload_n 1, 1) := by decide +kernel
theorem dX10_sets_66 : decode cX10_sets 66 = .ok (.aload_n 0, 1) := by decide +kernel
theorem dX10_sets_67 : decode cX10_sets 67 = .ok (.getfield 10, 3) := by decide +kernel
theorem dX10_sets_70 : decode cX10_sets 70 = .ok (.getfield 89, 3) := by decide +kernel
theorem dX10_sets_73 : decode cX10_sets 73 = .ok (.invokevirtual 141, 3) := by decide +kernel
theorem dX10_sets_76 : decode cX10_sets 76 = .ok (.invokevirtual 153, 3) := by decide +kernel
theorem dX10_sets_79 : decode cX10_sets 79 = .ok (.aload_n 0, 1) := by decide +kernel
theorem dX10_sets_80 : decode cX10_sets 80 = .ok (.getfield 10, 3) := by decide +kernel
theorem dX10_sets_83 : decode cX10_sets 83 = .ok (.getfield 70, 3) := by decide +kernel
theorem dX10_sets_86 : decode cX10_sets 86 = .ok (.getfield 149, 3) := by decide +kernel
theorem dX10_sets_89 : decode cX10_sets 89 = .ok (.iload_n 1, 1) := by decide +kernel
theorem dX10_sets_90 : decode cX10_sets 90 = .ok (.iload_n 2, 1) := by decide +kernel
theorem dX10_sets_91 : decode cX10_sets 91 = .ok (.iastore, 1) := by decide +kernel
theorem dX10_sets_92 : decode cX10_sets 92 = .ok (.iload_n 3, 1) := by decide +kernel
theorem dX10_sets_93 : decode cX10_sets 93 = .ok (.ireturn, 1) := by decide +kernel
def fX10_sets_26 (v0 : Nat) (h : gx_H) : Option (Int32 × gx_H) :=
  gx_bd (fX10_refuse v0 (-2 : Int32) h) fun x27 h26 =>
  some (x27, h26)
def fX10_sets (v0 : Nat) (v1 : Int32) (v2 : Int32) (h : gx_H) : Option (Int32 × gx_H) :=
  (gx_isO h v0 8).bind fun _ =>
  gx_bd (fX10_isPlayer v0 v1 h) fun x2 h1 =>
  if x2 = 0 then
    fX10_sets_26 v0 h1
  else
    (gx_fR h1 v0 8 0).bind fun a3 =>
    (gx_fR h1 a3 1 0).bind fun a4 =>
    (gx_fI h1 a4 0 0).bind fun x5 =>
    gx_bd (fX10_within v2 (0 : Int32) x5 h1) fun x7 h6 =>
    if x7 = 0 then
      fX10_sets_26 v0 h6
    else
      (gx_fR h6 v0 8 0).bind fun a8 =>
      (gx_fR h6 a8 1 0).bind fun a9 =>
      (gx_fR h6 a9 0 9).bind fun a10 =>
      (gx_aI 0 h6 a10 v1).bind fun x11 =>
      if x11 = v2 then
        gx_bd (fX10_refuse v0 (-3 : Int32) h6) fun x25 h24 =>
        some (x25, h24)
      else
        (gx_fR h6 v0 8 0).bind fun a12 =>
        (gx_fR h6 a12 1 0).bind fun a13 =>
        (gx_fR h6 v0 8 0).bind fun a14 =>
        (gx_fR h6 a14 1 1).bind fun a15 =>
        gx_bd (fX3_nextStep a15 h6) fun a17 h16 =>
        gx_bd (fX0_remember a13 v1 a17 h16) fun u19 h18 =>
        (gx_fR h18 v0 8 0).bind fun a20 =>
        (gx_fR h18 a20 1 0).bind fun a21 =>
        (gx_fR h18 a21 0 9).bind fun a22 =>
        (gx_sI 0 h18 a22 v1 v2).bind fun h23 =>
        some (x11, h23)
set_option maxRecDepth 100000 in
set_option maxHeartbeats 4000000 in
theorem gX10_sets_26 {E : gx_Env} {d : Nat}  : ∀ (v0 : Nat) (h : gx_H), gx_G E RX10 cX10_sets 4 (some .int) false (d + 2) 0 0 26 [some (.ref v0), none, none, none] [] h (fun x : Int32 => some (.int x)) (fX10_sets_26 v0 h) := by
  intro v0 h
  unfold fX10_sets_26
  refine gx_aload_n 0 dX10_sets_26 rfl rfl ?_
  refine gx_bipush (-2 : Int32) dX10_sets_27 (by decide) ?_
  refine gx_callV (ci := 8) (bc := 0) (bs := 0) (mc := 0) (ms := 0) (em' := (fun x : Int32 => some (.int x))) [.int (-2 : Int32)] kc_RX10_66 rfl dX10_sets_29 rfl rfl (gx_w8 rfl) (fun x q => (gx_isO_of (by unfold fX10_refuse at q; exact q)).2) (fun _ _ q => okX10_refuse (d + 1) q) (fun x27 h26 => ?_)
  exact gx_iret dX10_sets_32 rfl
set_option maxRecDepth 100000 in
set_option maxHeartbeats 4000000 in
theorem geX10_sets {E : gx_Env} {d : Nat} (v0 : Nat) (v1 : Int32) (v2 : Int32) (h : gx_H) : gx_G E RX10 cX10_sets 4 (some .int) false (d + 2) 0 0 0 [some (.ref v0), some (.int v1), some (.int v2), none] [] h (fun x : Int32 => some (.int x)) (fX10_sets v0 v1 v2 h) := by
  unfold fX10_sets
  refine gx_bind fun _ _ => ?_
  refine gx_aload_n 0 dX10_sets_0 rfl rfl ?_
  refine gx_iload_n 1 dX10_sets_1 rfl rfl ?_
  refine gx_callV (ci := 8) (bc := 0) (bs := 0) (mc := 0) (ms := 0) (em' := (fun x : Int32 => some (.int x))) [.int v1] kc_RX10_134 rfl dX10_sets_2 rfl rfl (gx_w8 rfl) (fun x q => (gx_isO_of (by unfold fX10_isPlayer at q; exact q)).2) (fun _ _ q => okX10_isPlayer d q) (fun x2 h1 => ?_)
  refine gx_if_eq 26 dX10_sets_5 (by decide) (fun _ => ?_) (fun _ => ?_)
  · exact gx_sub (gX10_sets_26 v0 h1) (And.intro rfl True.intro)
  · refine gx_iload_n 2 dX10_sets_8 rfl rfl ?_
    refine gx_iconst (0 : Int32) dX10_sets_9 (by decide) ?_
    refine gx_aload_n 0 dX10_sets_10 rfl rfl ?_
    refine gx_getR kf_RX10_10 dX10_sets_11 (fun a3 => ?_)
    refine gx_getR kf_RX10_70 dX10_sets_14 (fun a4 => ?_)
    refine gx_getI kf_RX10_98 dX10_sets_17 (fun x5 => ?_)
    refine gx_callS (bc := 0) (bs := 0) (mc := 0) (ms := 0) (em' := (fun x : Int32 => some (.int x))) [.int v2, .int (0 : Int32), .int x5] kc_RX10_62 dX10_sets_20 rfl rfl (gx_w8 rfl) (fun _ _ q => okX10_within (d + 1) q) (fun x7 h6 => ?_)
    refine gx_if_ne 33 dX10_sets_23 (by decide) (fun _ => ?_) (fun _ => ?_)
    · refine gx_aload_n 0 dX10_sets_33 rfl rfl ?_
      refine gx_getR kf_RX10_10 dX10_sets_34 (fun a8 => ?_)
      refine gx_getR kf_RX10_70 dX10_sets_37 (fun a9 => ?_)
      refine gx_getR kf_RX10_149 dX10_sets_40 (fun a10 => ?_)
      refine gx_iload_n 1 dX10_sets_43 rfl rfl ?_
      refine gx_iald dX10_sets_44 (fun x11 => ?_)
      refine gx_istore_n 3 [some (.ref v0), some (.int v1), some (.int v2), some (.int x11)] dX10_sets_45 rfl (by decide) rfl ?_
      refine gx_iload_n 3 dX10_sets_46 rfl rfl ?_
      refine gx_iload_n 2 dX10_sets_47 rfl rfl ?_
      refine gx_icmp_ne 58 dX10_sets_48 (by decide) (fun _ => ?_) (fun _ => ?_)
      · refine gx_aload_n 0 dX10_sets_58 rfl rfl ?_
        refine gx_getR kf_RX10_10 dX10_sets_59 (fun a12 => ?_)
        refine gx_getR kf_RX10_70 dX10_sets_62 (fun a13 => ?_)
        refine gx_iload_n 1 dX10_sets_65 rfl rfl ?_
        refine gx_aload_n 0 dX10_sets_66 rfl rfl ?_
        refine gx_getR kf_RX10_10 dX10_sets_67 (fun a14 => ?_)
        refine gx_getR kf_RX10_89 dX10_sets_70 (fun a15 => ?_)
        refine gx_callV (ci := 3) (bc := 0) (bs := 0) (mc := 0) (ms := 0) (em' := (fun x : Nat => some (.ref x))) [] kc_RX10_141 rfl dX10_sets_73 rfl rfl (gx_w8 rfl) (fun x q => (gx_isO_of (by unfold fX3_nextStep at q; exact q)).2) (fun _ _ q => okX3_nextStep d q) (fun a17 h16 => ?_)
        refine gx_callV (ci := 0) (bc := 0) (bs := 0) (mc := 0) (ms := 0) (em' := (fun _ : Unit => none)) [.int v1, .ref a17] kc_RX10_153 rfl dX10_sets_76 rfl rfl (gx_w8 rfl) (fun x q => (gx_isO_of (by unfold fX0_remember at q; exact q)).2) (fun _ _ q => okX0_remember (d + 1) q) (fun u19 h18 => ?_)
        refine gx_aload_n 0 dX10_sets_79 rfl rfl ?_
        refine gx_getR kf_RX10_10 dX10_sets_80 (fun a20 => ?_)
        refine gx_getR kf_RX10_70 dX10_sets_83 (fun a21 => ?_)
        refine gx_getR kf_RX10_149 dX10_sets_86 (fun a22 => ?_)
        refine gx_iload_n 1 dX10_sets_89 rfl rfl ?_
        refine gx_iload_n 2 dX10_sets_90 rfl rfl ?_
        refine gx_iast dX10_sets_91 (fun h23 => ?_)
        refine gx_iload_n 3 dX10_sets_92 rfl rfl ?_
        exact gx_iret dX10_sets_93 rfl
      · refine gx_aload_n 0 dX10_sets_51 rfl rfl ?_
        refine gx_bipush (-3 : Int32) dX10_sets_52 (by decide) ?_
        refine gx_callV (ci := 8) (bc := 0) (bs := 0) (mc := 0) (ms := 0) (em' := (fun x : Int32 => some (.int x))) [.int (-3 : Int32)] kc_RX10_66 rfl dX10_sets_54 rfl rfl (gx_w8 rfl) (fun x q => (gx_isO_of (by unfold fX10_refuse at q; exact q)).2) (fun _ _ q => okX10_refuse (d + 1) q) (fun x25 h24 => ?_)
        exact gx_iret dX10_sets_57 rfl
    · exact gx_sub (gX10_sets_26 v0 h6) (And.intro rfl True.intro)
theorem okX10_sets {E : gx_Env} (d : Nat) {v0 : Nat} {v1 : Int32} {v2 : Int32} {h : gx_H} {r : Int32} {h1 : gx_H} (q : fX10_sets v0 v1 v2 h = some (r, h1)) : gx_M E yX10_sets cX10_sets 4 (some .int) (d + 2) 0 0 [.ref v0, .int v1, .int v2] h ((fun x : Int32 => some (.int x)) r) h1 := gx_meth (y := yX10_sets) (cc := cX10_sets) (nL := 4) (em := (fun x : Int32 => some (.int x))) (ini := false) [.ref v0, .int v1, .int v2] (by decide) (by simp [gx_sl]) (fun q => by cases q) (geX10_sets v0 v1 v2 h) q
theorem dX10_undo_0 : decode cX10_undo 0 = .ok (.aload_n 0, 1) := by decide +kernel
theorem dX10_undo_1 : decode cX10_undo 1 = .ok (.getfield 10, 3) := by decide +kernel
theorem dX10_undo_4 : decode cX10_undo 4 = .ok (.getfield 89, 3) := by decide +kernel
theorem dX10_undo_7 : decode cX10_undo 7 = .ok (.getfield 157, 3) := by decide +kernel
theorem dX10_undo_10 : decode cX10_undo 10 = .ok (.ifCond .ne 10, 3) := by decide +kernel
theorem dX10_undo_13 : decode cX10_undo 13 = .ok (.aload_n 0, 1) := by decide +kernel
theorem dX10_undo_14 : decode cX10_undo 14 = .ok (.bipush (-3), 2) := by decide +kernel
theorem dX10_undo_16 : decode cX10_undo 16 = .ok (.invokevirtual 66, 3) := by decide +kernel
theorem dX10_undo_19 : decode cX10_undo 19 = .ok (.ireturn, 1) := by decide +kernel
theorem dX10_undo_20 : decode cX10_undo 20 = .ok (.aload_n 0, 1) := by decide +kernel
theorem dX10_undo_21 : decode cX10_undo 21 = .ok (.getfield 10, 3) := by decide +kernel
theorem dX10_undo_24 : decode cX10_undo 24 = .ok (.getfield 89, 3) := by decide +kernel
theorem dX10_undo_27 : decode cX10_undo 27 = .ok (.aload_n 0, 1) := by decide +kernel
theorem dX10_undo_28 : decode cX10_undo 28 = .ok (.getfield 10, 3) := by decide +kernel
theorem dX10_undo_31 : decode cX10_undo 31 = .ok (.getfield 70, 3) := by decide +kernel
theorem dX10_undo_34 : decode cX10_undo 34 = .ok (.invokevirtual 160, 3) := by decide +kernel
theorem dX10_undo_37 : decode cX10_undo 37 = .ok (.aload_n 0, 1) := by decide +kernel
theorem dX10_undo_38 : decode cX10_undo 38 = .ok (.getfield 10, 3) := by decide +kernel
theorem dX10_undo_41 : decode cX10_undo 41 = .ok (.getfield 70, 3) := by decide +kernel
theorem dX10_undo_44 : decode cX10_undo 44 = .ok (.invokevirtual 163, 3) := by decide +kernel
theorem dX10_undo_47 : decode cX10_undo 47 = .ok (.ireturn, 1) := by decide +kernel
def fX10_undo (v0 : Nat) (h : gx_H) : Option (Int32 × gx_H) :=
  (gx_isO h v0 8).bind fun _ =>
  (gx_fR h v0 8 0).bind fun a1 =>
  (gx_fR h a1 1 1).bind fun a2 =>
  (gx_fI h a2 3 0).bind fun x3 =>
  if x3 = 0 then
    gx_bd (fX10_refuse v0 (-3 : Int32) h) fun x15 h14 =>
    some (x15, h14)
  else
    (gx_fR h v0 8 0).bind fun a4 =>
    (gx_fR h a4 1 1).bind fun a5 =>
    (gx_fR h v0 8 0).bind fun a6 =>
    (gx_fR h a6 1 0).bind fun a7 =>
    gx_bd (fX3_takeBack a5 a7 h) fun u9 h8 =>
    (gx_fR h8 v0 8 0).bind fun a10 =>
    (gx_fR h8 a10 1 0).bind fun a11 =>
    gx_bd (fX0_homes a11 h8) fun x13 h12 =>
    some (x13, h12)
set_option maxRecDepth 100000 in
set_option maxHeartbeats 4000000 in
theorem geX10_undo {E : gx_Env} {d : Nat} (v0 : Nat) (h : gx_H) : gx_G E RX10 cX10_undo 1 (some .int) false (d + 2) 0 0 0 [some (.ref v0)] [] h (fun x : Int32 => some (.int x)) (fX10_undo v0 h) := by
  unfold fX10_undo
  refine gx_bind fun _ _ => ?_
  refine gx_aload_n 0 dX10_undo_0 rfl rfl ?_
  refine gx_getR kf_RX10_10 dX10_undo_1 (fun a1 => ?_)
  refine gx_getR kf_RX10_89 dX10_undo_4 (fun a2 => ?_)
  refine gx_getI kf_RX10_157 dX10_undo_7 (fun x3 => ?_)
  refine gx_if_ne 20 dX10_undo_10 (by decide) (fun _ => ?_) (fun _ => ?_)
  · refine gx_aload_n 0 dX10_undo_20 rfl rfl ?_
    refine gx_getR kf_RX10_10 dX10_undo_21 (fun a4 => ?_)
    refine gx_getR kf_RX10_89 dX10_undo_24 (fun a5 => ?_)
    refine gx_aload_n 0 dX10_undo_27 rfl rfl ?_
    refine gx_getR kf_RX10_10 dX10_undo_28 (fun a6 => ?_)
    refine gx_getR kf_RX10_70 dX10_undo_31 (fun a7 => ?_)
    refine gx_callV (ci := 3) (bc := 0) (bs := 0) (mc := 0) (ms := 0) (em' := (fun _ : Unit => none)) [.ref a7] kc_RX10_160 rfl dX10_undo_34 rfl rfl (gx_w8 rfl) (fun x q => (gx_isO_of (by unfold fX3_takeBack at q; exact q)).2) (fun _ _ q => okX3_takeBack d q) (fun u9 h8 => ?_)
    refine gx_aload_n 0 dX10_undo_37 rfl rfl ?_
    refine gx_getR kf_RX10_10 dX10_undo_38 (fun a10 => ?_)
    refine gx_getR kf_RX10_70 dX10_undo_41 (fun a11 => ?_)
    refine gx_callV (ci := 0) (bc := 0) (bs := 0) (mc := 0) (ms := 0) (em' := (fun x : Int32 => some (.int x))) [] kc_RX10_163 rfl dX10_undo_44 rfl rfl (gx_w8 rfl) (fun x q => (gx_isO_of (by unfold fX0_homes at q; exact q)).2) (fun _ _ q => okX0_homes d q) (fun x13 h12 => ?_)
    exact gx_iret dX10_undo_47 rfl
  · refine gx_aload_n 0 dX10_undo_13 rfl rfl ?_
    refine gx_bipush (-3 : Int32) dX10_undo_14 (by decide) ?_
    refine gx_callV (ci := 8) (bc := 0) (bs := 0) (mc := 0) (ms := 0) (em' := (fun x : Int32 => some (.int x))) [.int (-3 : Int32)] kc_RX10_66 rfl dX10_undo_16 rfl rfl (gx_w8 rfl) (fun x q => (gx_isO_of (by unfold fX10_refuse at q; exact q)).2) (fun _ _ q => okX10_refuse (d + 1) q) (fun x15 h14 => ?_)
    exact gx_iret dX10_undo_19 rfl
theorem okX10_undo {E : gx_Env} (d : Nat) {v0 : Nat} {h : gx_H} {r : Int32} {h1 : gx_H} (q : fX10_undo v0 h = some (r, h1)) : gx_M E yX10_undo cX10_undo 1 (some .int) (d + 2) 0 0 [.ref v0] h ((fun x : Int32 => some (.int x)) r) h1 := gx_meth (y := yX10_undo) (cc := cX10_undo) (nL := 1) (em := (fun x : Int32 => some (.int x))) (ini := false) [.ref v0] (by decide) (by simp [gx_sl]) (fun q => by cases q) (geX10_undo v0 h) q
theorem dX10_of_0 : decode cX10_of 0 = .ok (.aload_n 0, 1) := by decide +kernel
theorem dX10_of_1 : decode cX10_of 1 = .ok (.iload_n 1, 1) := by decide +kernel
theorem dX10_of_2 : decode cX10_of 2 = .ok (.invokevirtual 134, 3) := by decide +kernel
theorem dX10_of_5 : decode cX10_of 5 = .ok (.ifCond .eq 12, 3) := by decide +kernel
theorem dX10_of_8 : decode cX10_of 8 = .ok (.iload_n 2, 1) := by decide +kernel
theorem dX10_of_9 : decode cX10_of 9 = .ok (.iconst 0, 1) := by decide +kernel
theorem dX10_of_10 : decode cX10_of 10 = .ok (.iconst 2, 1) := by decide +kernel
theorem dX10_of_11 : decode cX10_of 11 = .ok (.invokestatic 62, 3) := by decide +kernel
theorem dX10_of_14 : decode cX10_of 14 = .ok (.ifCond .ne 10, 3) := by decide +kernel
theorem dX10_of_17 : decode cX10_of 17 = .ok (.aload_n 0, 1) := by decide +kernel
theorem dX10_of_18 : decode cX10_of 18 = .ok (.bipush (-2), 2) := by decide +kernel
theorem dX10_of_20 : decode cX10_of 20 = .ok (.invokevirtual 66, 3) := by decide +kernel
theorem dX10_of_23 : decode cX10_of 23 = .ok (.ireturn, 1) := by decide +kernel
theorem dX10_of_24 : decode cX10_of 24 = .ok (.iload_n 2, 1) := by decide +kernel
theorem dX10_of_25 : decode cX10_of 25 = .ok (.lookupswitch 53 #[(0, 27), (1, 40)], 27) := by decide +kernel
theorem dX10_of_52 : decode cX10_of 52 = .ok (.aload_n 0, 1) := by decide +kernel
theorem dX10_of_53 : decode cX10_of 53 = .ok (.getfield 10, 3) := by decide +kernel
theorem dX10_of_56 : decode cX10_of 56 = .ok (.getfield 70, 3) := by decide +kernel
theorem dX10_of_59 : decode cX10_of 59 = .ok (.getfield 166, 3) := by decide +kernel
theorem dX10_of_62 : decode cX10_of 62 = .ok (.iload_n 1, 1) := by decide +kernel
theorem dX10_of_63 : decode cX10_of 63 = .ok (.iaload, 1) := by decide +kernel
theorem dX10_of_64 : decode cX10_of 64 = .ok (.ireturn, 1) := by decide +kernel
theorem dX10_of_65 : decode cX10_of 65 = .ok (.aload_n 0, 1) := by decide +kernel
theorem dX10_of_66 : decode cX10_of 66 = .ok (.getfield 10, 3) := by decide +kernel
theorem dX10_of_69 : decode cX10_of 69 = .ok (.getfield 70, 3) := by decide +kernel
theorem dX10_of_72 : decode cX10_of 72 = .ok (.getfield 149, 3) := by decide +kernel
theorem dX10_of_75 : decode cX10_of 75 = .ok (.iload_n 1, 1) := by decide +kernel
theorem dX10_of_76 : decode cX10_of 76 = .ok (.iaload, 1) := by decide +kernel
theorem dX10_of_77 : decode cX10_of 77 = .ok (.ireturn, 1) := by decide +kernel
theorem dX10_of_78 : decode cX10_of 78 = .ok (.aload_n 0, 1) := by decide +kernel
theorem dX10_of_79 : decode cX10_of 79 = .ok (.getfield 10, 3) := by decide +kernel
theorem dX10_of_82 : decode cX10_of 82 = .ok (.getfield 70, 3) := by decide +kernel
theorem dX10_of_85 : decode cX10_of 85 = .ok (.getfield 169, 3) := by decide +kernel
theorem dX10_of_88 : decode cX10_of 88 = .ok (.iload_n 1, 1) := by decide +kernel
theorem dX10_of_89 : decode cX10_of 89 = .ok (.iaload, 1) := by decide +kernel
theorem dX10_of_90 : decode cX10_of 90 = .ok (.ireturn, 1) := by decide +kernel
def fX10_of_17 (v0 : Nat) (h : gx_H) : Option (Int32 × gx_H) :=
  gx_bd (fX10_refuse v0 (-2 : Int32) h) fun x18 h17 =>
  some (x18, h17)
def fX10_of (v0 : Nat) (v1 : Int32) (v2 : Int32) (h : gx_H) : Option (Int32 × gx_H) :=
  (gx_isO h v0 8).bind fun _ =>
  gx_bd (fX10_isPlayer v0 v1 h) fun x2 h1 =>
  if x2 = 0 then
    fX10_of_17 v0 h1
  else
    gx_bd (fX10_within v2 (0 : Int32) (2 : Int32) h1) fun x4 h3 =>
    if x4 = 0 then
      fX10_of_17 v0 h3
    else
      if v2 = (0 : Int32) then
        (gx_fR h3 v0 8 0).bind fun a5 =>
        (gx_fR h3 a5 1 0).bind fun a6 =>
        (gx_fR h3 a6 0 8).bind fun a7 =>
        (gx_aI 0 h3 a7 v1).bind fun x8 =>
        some (x8, h3)
      else
      if v2 = (1 : Int32) then
        (gx_fR h3 v0 8 0).bind fun a9 =>
        (gx_fR h3 a9 1 0).bind fun a10 =>
        (gx_fR h3 a10 0 9).bind fun a11 =>
        (gx_aI 0 h3 a11 v1).bind fun x12 =>
        some (x12, h3)
      else
      (gx_fR h3 v0 8 0).bind fun a13 =>
      (gx_fR h3 a13 1 0).bind fun a14 =>
      (gx_fR h3 a14 0 10).bind fun a15 =>
      (gx_aI 0 h3 a15 v1).bind fun x16 =>
      some (x16, h3)
set_option maxRecDepth 100000 in
set_option maxHeartbeats 4000000 in
theorem gX10_of_17 {E : gx_Env} {d : Nat}  : ∀ (v0 : Nat) (h : gx_H), gx_G E RX10 cX10_of 3 (some .int) false (d + 2) 0 0 17 [some (.ref v0), none, none] [] h (fun x : Int32 => some (.int x)) (fX10_of_17 v0 h) := by
  intro v0 h
  unfold fX10_of_17
  refine gx_aload_n 0 dX10_of_17 rfl rfl ?_
  refine gx_bipush (-2 : Int32) dX10_of_18 (by decide) ?_
  refine gx_callV (ci := 8) (bc := 0) (bs := 0) (mc := 0) (ms := 0) (em' := (fun x : Int32 => some (.int x))) [.int (-2 : Int32)] kc_RX10_66 rfl dX10_of_20 rfl rfl (gx_w8 rfl) (fun x q => (gx_isO_of (by unfold fX10_refuse at q; exact q)).2) (fun _ _ q => okX10_refuse (d + 1) q) (fun x18 h17 => ?_)
  exact gx_iret dX10_of_23 rfl
set_option maxRecDepth 100000 in
set_option maxHeartbeats 4000000 in
theorem geX10_of {E : gx_Env} {d : Nat} (v0 : Nat) (v1 : Int32) (v2 : Int32) (h : gx_H) : gx_G E RX10 cX10_of 3 (some .int) false (d + 2) 0 0 0 [some (.ref v0), some (.int v1), some (.int v2)] [] h (fun x : Int32 => some (.int x)) (fX10_of v0 v1 v2 h) := by
  unfold fX10_of
  refine gx_bind fun _ _ => ?_
  refine gx_aload_n 0 dX10_of_0 rfl rfl ?_
  refine gx_iload_n 1 dX10_of_1 rfl rfl ?_
  refine gx_callV (ci := 8) (bc := 0) (bs := 0) (mc := 0) (ms := 0) (em' := (fun x : Int32 => some (.int x))) [.int v1] kc_RX10_134 rfl dX10_of_2 rfl rfl (gx_w8 rfl) (fun x q => (gx_isO_of (by unfold fX10_isPlayer at q; exact q)).2) (fun _ _ q => okX10_isPlayer d q) (fun x2 h1 => ?_)
  refine gx_if_eq 17 dX10_of_5 (by decide) (fun _ => ?_) (fun _ => ?_)
  · exact gx_sub (gX10_of_17 v0 h1) (And.intro rfl True.intro)
  · refine gx_iload_n 2 dX10_of_8 rfl rfl ?_
    refine gx_iconst (0 : Int32) dX10_of_9 (by decide) ?_
    refine gx_iconst (2 : Int32) dX10_of_10 (by decide) ?_
    refine gx_callS (bc := 0) (bs := 0) (mc := 0) (ms := 0) (em' := (fun x : Int32 => some (.int x))) [.int v2, .int (0 : Int32), .int (2 : Int32)] kc_RX10_62 dX10_of_11 rfl rfl (gx_w8 rfl) (fun _ _ q => okX10_within (d + 1) q) (fun x4 h3 => ?_)
    refine gx_if_ne 24 dX10_of_14 (by decide) (fun _ => ?_) (fun _ => ?_)
    · refine gx_iload_n 2 dX10_of_24 rfl rfl ?_
      refine gx_ite (fun hx => ?_) (fun hx0 => ?_)
      · refine gx_look (off := 27) 52 dX10_of_25 (by decide) (by rw [hx]; decide) (by decide) ?_
        refine gx_aload_n 0 dX10_of_52 rfl rfl ?_
        refine gx_getR kf_RX10_10 dX10_of_53 (fun a5 => ?_)
        refine gx_getR kf_RX10_70 dX10_of_56 (fun a6 => ?_)
        refine gx_getR kf_RX10_166 dX10_of_59 (fun a7 => ?_)
        refine gx_iload_n 1 dX10_of_62 rfl rfl ?_
        refine gx_iald dX10_of_63 (fun x8 => ?_)
        exact gx_iret dX10_of_64 rfl
      refine gx_ite (fun hx => ?_) (fun hx1 => ?_)
      · refine gx_look (off := 40) 65 dX10_of_25 (by decide) (by rw [hx]; decide) (by decide) ?_
        refine gx_aload_n 0 dX10_of_65 rfl rfl ?_
        refine gx_getR kf_RX10_10 dX10_of_66 (fun a9 => ?_)
        refine gx_getR kf_RX10_70 dX10_of_69 (fun a10 => ?_)
        refine gx_getR kf_RX10_149 dX10_of_72 (fun a11 => ?_)
        refine gx_iload_n 1 dX10_of_75 rfl rfl ?_
        refine gx_iald dX10_of_76 (fun x12 => ?_)
        exact gx_iret dX10_of_77 rfl
      refine gx_look (off := 53) 78 dX10_of_25 (by decide) ((lv_osw hx0 (by decide)).trans ((lv_osw hx1 (by decide)).trans rfl)) (by decide) ?_
      refine gx_aload_n 0 dX10_of_78 rfl rfl ?_
      refine gx_getR kf_RX10_10 dX10_of_79 (fun a13 => ?_)
      refine gx_getR kf_RX10_70 dX10_of_82 (fun a14 => ?_)
      refine gx_getR kf_RX10_169 dX10_of_85 (fun a15 => ?_)
      refine gx_iload_n 1 dX10_of_88 rfl rfl ?_
      refine gx_iald dX10_of_89 (fun x16 => ?_)
      exact gx_iret dX10_of_90 rfl
    · exact gx_sub (gX10_of_17 v0 h3) (And.intro rfl True.intro)
theorem okX10_of {E : gx_Env} (d : Nat) {v0 : Nat} {v1 : Int32} {v2 : Int32} {h : gx_H} {r : Int32} {h1 : gx_H} (q : fX10_of v0 v1 v2 h = some (r, h1)) : gx_M E yX10_of cX10_of 3 (some .int) (d + 2) 0 0 [.ref v0, .int v1, .int v2] h ((fun x : Int32 => some (.int x)) r) h1 := gx_meth (y := yX10_of) (cc := cX10_of) (nL := 3) (em := (fun x : Int32 => some (.int x))) (ini := false) [.ref v0, .int v1, .int v2] (by decide) (by simp [gx_sl]) (fun q => by cases q) (geX10_of v0 v1 v2 h) q
theorem dX10_isLink_0 : decode cX10_isLink 0 = .ok (.iload_n 1, 1) := by decide +kernel
theorem dX10_isLink_1 : decode cX10_isLink 1 = .ok (.iconst 0, 1) := by decide +kernel
theorem dX10_isLink_2 : decode cX10_isLink 2 = .ok (.aload_n 0, 1) := by decide +kernel
theorem dX10_isLink_3 : decode cX10_isLink 3 = .ok (.getfield 10, 3) := by decide +kernel
theorem dX10_isLink_6 : decode cX10_isLink 6 = .ok (.getfield 70, 3) := by decide +kernel
theorem dX10_isLink_9 : decode cX10_isLink 9 = .ok (.getfield 104, 3) := by decide +kernel
theorem dX10_isLink_12 : decode cX10_isLink 12 = .ok (.iconst 1, 1) := by decide +kernel
theorem dX10_isLink_13 : decode cX10_isLink 13 = .ok (.isub, 1) := by decide +kernel
theorem dX10_isLink_14 : decode cX10_isLink 14 = .ok (.invokestatic 62, 3) := by decide +kernel
theorem dX10_isLink_17 : decode cX10_isLink 17 = .ok (.ireturn, 1) := by decide +kernel
def fX10_isLink (v0 : Nat) (v1 : Int32) (h : gx_H) : Option (Int32 × gx_H) :=
  (gx_isO h v0 8).bind fun _ =>
  (gx_fR h v0 8 0).bind fun a1 =>
  (gx_fR h a1 1 0).bind fun a2 =>
  (gx_fI h a2 0 2).bind fun x3 =>
  gx_bd (fX10_within v1 (0 : Int32) (x3 - (1 : Int32)) h) fun x5 h4 =>
  gx_ret .boolean x5 h4
set_option maxRecDepth 100000 in
set_option maxHeartbeats 4000000 in
theorem geX10_isLink {E : gx_Env} {d : Nat} (v0 : Nat) (v1 : Int32) (h : gx_H) : gx_G E RX10 cX10_isLink 2 (some .boolean) false (d + 1) 0 0 0 [some (.ref v0), some (.int v1)] [] h (fun x : Int32 => some (.int x)) (fX10_isLink v0 v1 h) := by
  unfold fX10_isLink
  refine gx_bind fun _ _ => ?_
  refine gx_iload_n 1 dX10_isLink_0 rfl rfl ?_
  refine gx_iconst (0 : Int32) dX10_isLink_1 (by decide) ?_
  refine gx_aload_n 0 dX10_isLink_2 rfl rfl ?_
  refine gx_getR kf_RX10_10 dX10_isLink_3 (fun a1 => ?_)
  refine gx_getR kf_RX10_70 dX10_isLink_6 (fun a2 => ?_)
  refine gx_getI kf_RX10_104 dX10_isLink_9 (fun x3 => ?_)
  refine gx_iconst (1 : Int32) dX10_isLink_12 (by decide) ?_
  refine gx_isub dX10_isLink_13 ?_
  refine gx_callS (bc := 0) (bs := 0) (mc := 0) (ms := 0) (em' := (fun x : Int32 => some (.int x))) [.int v1, .int (0 : Int32), .int (x3 - (1 : Int32))] kc_RX10_62 dX10_isLink_14 rfl rfl (gx_w8 rfl) (fun _ _ q => okX10_within d q) (fun x5 h4 => ?_)
  exact gx_zret dX10_isLink_17 rfl
theorem okX10_isLink {E : gx_Env} (d : Nat) {v0 : Nat} {v1 : Int32} {h : gx_H} {r : Int32} {h1 : gx_H} (q : fX10_isLink v0 v1 h = some (r, h1)) : gx_M E yX10_isLink cX10_isLink 2 (some .boolean) (d + 1) 0 0 [.ref v0, .int v1] h ((fun x : Int32 => some (.int x)) r) h1 := gx_meth (y := yX10_isLink) (cc := cX10_isLink) (nL := 2) (em := (fun x : Int32 => some (.int x))) (ini := false) [.ref v0, .int v1] (by decide) (by simp [gx_sl]) (fun q => by cases q) (geX10_isLink v0 v1 h) q
theorem dX10_about_0 : decode cX10_about 0 = .ok (.aload_n 0, 1) := by decide +kernel
theorem dX10_about_1 : decode cX10_about 1 = .ok (.iload_n 1, 1) := by decide +kernel
theorem dX10_about_2 : decode cX10_about 2 = .ok (.invokevirtual 172, 3) := by decide +kernel
theorem dX10_about_5 : decode cX10_about 5 = .ok (.ifCond .eq 12, 3) := by decide +kernel
theorem dX10_about_8 : decode cX10_about 8 = .ok (.iload_n 2, 1) := by decide +kernel
theorem dX10_about_9 : decode cX10_about 9 = .ok (.iconst 0, 1) := by decide +kernel
theorem dX10_about_10 : decode cX10_about 10 = .ok (.iconst 3, 1) := by decide +kernel
theorem dX10_about_11 : decode cX10_about 11 = .ok (.invokestatic 62, 3) := by decide +kernel
theorem dX10_about_14 : decode cX10_about 14 = .ok (.ifCond .ne 10, 3) := by decide +kernel
theorem dX10_about_17 : decode cX10_about 17 = .ok (.aload_n 0, 1) := by decide +kernel
theorem dX10_about_18 : decode cX10_about 18 = .ok (.bipush (-2), 2) := by decide +kernel
theorem dX10_about_20 : decode cX10_about 20 = .ok (.invokevirtual 66, 3) := by decide +kernel
theorem dX10_about_23 : decode cX10_about 23 = .ok (.ireturn, 1) := by decide +kernel
theorem dX10_about_24 : decode cX10_about 24 = .ok (.iload_n 2, 1) := by decide +kernel
theorem dX10_about_25 : decode cX10_about 25 = .ok (.tableswitch 66 0 2 #[27, 40, 53], 27) := by decide +kernel
theorem dX10_about_52 : decode cX10_about 52 = .ok (.aload_n 0, 1) := by decide +kernel
theorem dX10_about_53 : decode cX10_about 53 = .ok (.getfield 10, 3) := by decide +kernel
theorem dX10_about_56 : decode cX10_about 56 = .ok (.getfield 70, 3) := by decide +kernel
theorem dX10_about_59 : decode cX10_about 59 = .ok (.getfield 175, 3) := by decide +kernel
theorem dX10_about_62 : decode cX10_about 62 = .ok (.iload_n 1, 1) := by decide +kernel
theorem dX10_about_63 : decode cX10_about 63 = .ok (.iaload, 1) := by decide +kernel
theorem dX10_about_64 : decode cX10_about 64 = .ok (.ireturn, 1) := by decide +kernel
theorem dX10_about_65 : decode cX10_about 65 = .ok (.aload_n 0, 1) := by decide +kernel
theorem dX10_about_66 : decode cX10_about 66 = .ok (.getfield 10, 3) := by decide +kernel
theorem dX10_about_69 : decode cX10_about 69 = .ok (.getfield 70, 3) := by decide +kernel
theorem dX10_about_72 : decode cX10_about 72 = .ok (.getfield 178, 3) := by decide +kernel
theorem dX10_about_75 : decode cX10_about 75 = .ok (.iload_n 1, 1) := by decide +kernel
theorem dX10_about_76 : decode cX10_about 76 = .ok (.iaload, 1) := by decide +kernel
theorem dX10_about_77 : decode cX10_about 77 = .ok (.ireturn, 1) := by decide +kernel
theorem dX10_about_78 : decode cX10_about 78 = .ok (.aload_n 0, 1) := by decide +kernel
theorem dX10_about_79 : decode cX10_about 79 = .ok (.getfield 10, 3) := by decide +kernel
theorem dX10_about_82 : decode cX10_about 82 = .ok (.getfield 70, 3) := by decide +kernel
theorem dX10_about_85 : decode cX10_about 85 = .ok (.getfield 181, 3) := by decide +kernel
theorem dX10_about_88 : decode cX10_about 88 = .ok (.iload_n 1, 1) := by decide +kernel
theorem dX10_about_89 : decode cX10_about 89 = .ok (.iaload, 1) := by decide +kernel
theorem dX10_about_90 : decode cX10_about 90 = .ok (.ireturn, 1) := by decide +kernel
theorem dX10_about_91 : decode cX10_about 91 = .ok (.aload_n 0, 1) := by decide +kernel
theorem dX10_about_92 : decode cX10_about 92 = .ok (.getfield 10, 3) := by decide +kernel
theorem dX10_about_95 : decode cX10_about 95 = .ok (.getfield 70, 3) := by decide +kernel
theorem dX10_about_98 : decode cX10_about 98 = .ok (.getfield 184, 3) := by decide +kernel
theorem dX10_about_101 : decode cX10_about 101 = .ok (.iload_n 1, 1) := by decide +kernel
theorem dX10_about_102 : decode cX10_about 102 = .ok (.iaload, 1) := by decide +kernel
theorem dX10_about_103 : decode cX10_about 103 = .ok (.ireturn, 1) := by decide +kernel
def fX10_about_17 (v0 : Nat) (h : gx_H) : Option (Int32 × gx_H) :=
  gx_bd (fX10_refuse v0 (-2 : Int32) h) fun x22 h21 =>
  some (x22, h21)
def fX10_about (v0 : Nat) (v1 : Int32) (v2 : Int32) (h : gx_H) : Option (Int32 × gx_H) :=
  (gx_isO h v0 8).bind fun _ =>
  gx_bd (fX10_isLink v0 v1 h) fun x2 h1 =>
  if x2 = 0 then
    fX10_about_17 v0 h1
  else
    gx_bd (fX10_within v2 (0 : Int32) (3 : Int32) h1) fun x4 h3 =>
    if x4 = 0 then
      fX10_about_17 v0 h3
    else
      if v2 = (0 : Int32) then
        (gx_fR h3 v0 8 0).bind fun a5 =>
        (gx_fR h3 a5 1 0).bind fun a6 =>
        (gx_fR h3 a6 0 4).bind fun a7 =>
        (gx_aI 0 h3 a7 v1).bind fun x8 =>
        some (x8, h3)
      else
      if v2 = (1 : Int32) then
        (gx_fR h3 v0 8 0).bind fun a9 =>
        (gx_fR h3 a9 1 0).bind fun a10 =>
        (gx_fR h3 a10 0 5).bind fun a11 =>
        (gx_aI 0 h3 a11 v1).bind fun x12 =>
        some (x12, h3)
      else
      if v2 = (2 : Int32) then
        (gx_fR h3 v0 8 0).bind fun a13 =>
        (gx_fR h3 a13 1 0).bind fun a14 =>
        (gx_fR h3 a14 0 6).bind fun a15 =>
        (gx_aI 0 h3 a15 v1).bind fun x16 =>
        some (x16, h3)
      else
      (gx_fR h3 v0 8 0).bind fun a17 =>
      (gx_fR h3 a17 1 0).bind fun a18 =>
      (gx_fR h3 a18 0 7).bind fun a19 =>
      (gx_aI 0 h3 a19 v1).bind fun x20 =>
      some (x20, h3)
set_option maxRecDepth 100000 in
set_option maxHeartbeats 4000000 in
theorem gX10_about_17 {E : gx_Env} {d : Nat}  : ∀ (v0 : Nat) (h : gx_H), gx_G E RX10 cX10_about 3 (some .int) false (d + 2) 0 0 17 [some (.ref v0), none, none] [] h (fun x : Int32 => some (.int x)) (fX10_about_17 v0 h) := by
  intro v0 h
  unfold fX10_about_17
  refine gx_aload_n 0 dX10_about_17 rfl rfl ?_
  refine gx_bipush (-2 : Int32) dX10_about_18 (by decide) ?_
  refine gx_callV (ci := 8) (bc := 0) (bs := 0) (mc := 0) (ms := 0) (em' := (fun x : Int32 => some (.int x))) [.int (-2 : Int32)] kc_RX10_66 rfl dX10_about_20 rfl rfl (gx_w8 rfl) (fun x q => (gx_isO_of (by unfold fX10_refuse at q; exact q)).2) (fun _ _ q => okX10_refuse (d + 1) q) (fun x22 h21 => ?_)
  exact gx_iret dX10_about_23 rfl
set_option maxRecDepth 100000 in
set_option maxHeartbeats 4000000 in
theorem geX10_about {E : gx_Env} {d : Nat} (v0 : Nat) (v1 : Int32) (v2 : Int32) (h : gx_H) : gx_G E RX10 cX10_about 3 (some .int) false (d + 2) 0 0 0 [some (.ref v0), some (.int v1), some (.int v2)] [] h (fun x : Int32 => some (.int x)) (fX10_about v0 v1 v2 h) := by
  unfold fX10_about
  refine gx_bind fun _ _ => ?_
  refine gx_aload_n 0 dX10_about_0 rfl rfl ?_
  refine gx_iload_n 1 dX10_about_1 rfl rfl ?_
  refine gx_callV (ci := 8) (bc := 0) (bs := 0) (mc := 0) (ms := 0) (em' := (fun x : Int32 => some (.int x))) [.int v1] kc_RX10_172 rfl dX10_about_2 rfl rfl (gx_w8 rfl) (fun x q => (gx_isO_of (by unfold fX10_isLink at q; exact q)).2) (fun _ _ q => okX10_isLink d q) (fun x2 h1 => ?_)
  refine gx_if_eq 17 dX10_about_5 (by decide) (fun _ => ?_) (fun _ => ?_)
  · exact gx_sub (gX10_about_17 v0 h1) (And.intro rfl True.intro)
  · refine gx_iload_n 2 dX10_about_8 rfl rfl ?_
    refine gx_iconst (0 : Int32) dX10_about_9 (by decide) ?_
    refine gx_iconst (3 : Int32) dX10_about_10 (by decide) ?_
    refine gx_callS (bc := 0) (bs := 0) (mc := 0) (ms := 0) (em' := (fun x : Int32 => some (.int x))) [.int v2, .int (0 : Int32), .int (3 : Int32)] kc_RX10_62 dX10_about_11 rfl rfl (gx_w8 rfl) (fun _ _ q => okX10_within (d + 1) q) (fun x4 h3 => ?_)
    refine gx_if_ne 24 dX10_about_14 (by decide) (fun _ => ?_) (fun _ => ?_)
    · refine gx_iload_n 2 dX10_about_24 rfl rfl ?_
      refine gx_ite (fun hx => ?_) (fun hx0 => ?_)
      · refine gx_tabIn (off := 27) 52 dX10_about_25 (by rw [hx]; decide) (by rw [hx]; decide) (by rw [hx]; decide) (by decide) ?_
        refine gx_aload_n 0 dX10_about_52 rfl rfl ?_
        refine gx_getR kf_RX10_10 dX10_about_53 (fun a5 => ?_)
        refine gx_getR kf_RX10_70 dX10_about_56 (fun a6 => ?_)
        refine gx_getR kf_RX10_175 dX10_about_59 (fun a7 => ?_)
        refine gx_iload_n 1 dX10_about_62 rfl rfl ?_
        refine gx_iald dX10_about_63 (fun x8 => ?_)
        exact gx_iret dX10_about_64 rfl
      refine gx_ite (fun hx => ?_) (fun hx1 => ?_)
      · refine gx_tabIn (off := 40) 65 dX10_about_25 (by rw [hx]; decide) (by rw [hx]; decide) (by rw [hx]; decide) (by decide) ?_
        refine gx_aload_n 0 dX10_about_65 rfl rfl ?_
        refine gx_getR kf_RX10_10 dX10_about_66 (fun a9 => ?_)
        refine gx_getR kf_RX10_70 dX10_about_69 (fun a10 => ?_)
        refine gx_getR kf_RX10_178 dX10_about_72 (fun a11 => ?_)
        refine gx_iload_n 1 dX10_about_75 rfl rfl ?_
        refine gx_iald dX10_about_76 (fun x12 => ?_)
        exact gx_iret dX10_about_77 rfl
      refine gx_ite (fun hx => ?_) (fun hx2 => ?_)
      · refine gx_tabIn (off := 53) 78 dX10_about_25 (by rw [hx]; decide) (by rw [hx]; decide) (by rw [hx]; decide) (by decide) ?_
        refine gx_aload_n 0 dX10_about_78 rfl rfl ?_
        refine gx_getR kf_RX10_10 dX10_about_79 (fun a13 => ?_)
        refine gx_getR kf_RX10_70 dX10_about_82 (fun a14 => ?_)
        refine gx_getR kf_RX10_181 dX10_about_85 (fun a15 => ?_)
        refine gx_iload_n 1 dX10_about_88 rfl rfl ?_
        refine gx_iald dX10_about_89 (fun x16 => ?_)
        exact gx_iret dX10_about_90 rfl
      refine gx_tabOut 91 dX10_about_25 (by have q0 := lv_neT hx0 (a := 0) (by decide); have q1 := lv_neT hx1 (a := 1) (by decide); have q2 := lv_neT hx2 (a := 2) (by decide); omega) (by decide) ?_
      refine gx_aload_n 0 dX10_about_91 rfl rfl ?_
      refine gx_getR kf_RX10_10 dX10_about_92 (fun a17 => ?_)
      refine gx_getR kf_RX10_70 dX10_about_95 (fun a18 => ?_)
      refine gx_getR kf_RX10_184 dX10_about_98 (fun a19 => ?_)
      refine gx_iload_n 1 dX10_about_101 rfl rfl ?_
      refine gx_iald dX10_about_102 (fun x20 => ?_)
      exact gx_iret dX10_about_103 rfl
    · exact gx_sub (gX10_about_17 v0 h3) (And.intro rfl True.intro)
theorem okX10_about {E : gx_Env} (d : Nat) {v0 : Nat} {v1 : Int32} {v2 : Int32} {h : gx_H} {r : Int32} {h1 : gx_H} (q : fX10_about v0 v1 v2 h = some (r, h1)) : gx_M E yX10_about cX10_about 3 (some .int) (d + 2) 0 0 [.ref v0, .int v1, .int v2] h ((fun x : Int32 => some (.int x)) r) h1 := gx_meth (y := yX10_about) (cc := cX10_about) (nL := 3) (em := (fun x : Int32 => some (.int x))) (ini := false) [.ref v0, .int v1, .int v2] (by decide) (by simp [gx_sl]) (fun q => by cases q) (geX10_about v0 v1 v2 h) q
theorem dX10_goes_0 : decode cX10_goes 0 = .ok (.aload_n 0, 1) := by decide +kernel
theorem dX10_goes_1 : decode cX10_goes 1 = .ok (.iload_n 1, 1) := by decide +kernel
theorem dX10_goes_2 : decode cX10_goes 2 = .ok (.invokevirtual 134, 3) := by decide +kernel
theorem dX10_goes_5 : decode cX10_goes 5 = .ok (.ifCond .eq 21, 3) := by decide +kernel
theorem dX10_goes_8 : decode cX10_goes 8 = .ok (.iload_n 2, 1) := by decide +kernel
theorem dX10_goes_9 : decode cX10_goes 9 = .ok (.iconst 1, 1) := by decide +kernel
theorem dX10_goes_10 : decode cX10_goes 10 = .ok (.aload_n 0, 1) := by decide +kernel
theorem dX10_goes_11 : decode cX10_goes 11 = .ok (.getfield 10, 3) := by decide +kernel
theorem dX10_goes_14 : decode cX10_goes 14 = .ok (.getfield 70, 3) := by decide +kernel
theorem dX10_goes_17 : decode cX10_goes 17 = .ok (.getfield 86, 3) := by decide +kernel
theorem dX10_goes_20 : decode cX10_goes 20 = .ok (.invokestatic 62, 3) := by decide +kernel
theorem dX10_goes_23 : decode cX10_goes 23 = .ok (.ifCond .ne 10, 3) := by decide +kernel
theorem dX10_goes_26 : decode cX10_goes 26 = .ok (.aload_n 0, 1) := by decide +kernel
theorem dX10_goes_27 : decode cX10_goes 27 = .ok (.bipush (-2), 2) := by decide +kernel
theorem dX10_goes_29 : decode cX10_goes 29 = .ok (.invokevirtual 66, 3) := by decide +kernel
theorem dX10_goes_32 : decode cX10_goes 32 = .ok (.ireturn, 1) := by decide +kernel
theorem dX10_goes_33 : decode cX10_goes 33 = .ok (.aload_n 0, 1) := by decide +kernel
theorem dX10_goes_34 : decode cX10_goes 34 = .ok (.getfield 10, 3) := by decide +kernel
theorem dX10_goes_37 : decode cX10_goes 37 = .ok (.getfield 70, 3) := by decide +kernel
theorem dX10_goes_40 : decode cX10_goes 40 = .ok (.iload_n 1, 1) := by decide +kernel
theorem dX10_goes_41 : decode cX10_goes 41 = .ok (.invokevirtual 138, 3) := by decide +kernel
theorem dX10_goes_44 : decode cX10_goes 44 = .ok (.ifCond .eq 10, 3) := by decide +kernel
theorem dX10_goes_47 : decode cX10_goes 47 = .ok (.aload_n 0, 1) := by decide +kernel
theorem dX10_goes_48 : decode cX10_goes 48 = .ok (.bipush (-3), 2) := by decide +kernel
theorem dX10_goes_50 : decode cX10_goes 50 = .ok (.invokevirtual 66, 3) := by decide +kernel
theorem dX10_goes_53 : decode cX10_goes 53 = .ok (.ireturn, 1) := by decide +kernel
theorem dX10_goes_54 : decode cX10_goes 54 = .ok (.aload_n 0, 1) := by decide +kernel
theorem dX10_goes_55 : decode cX10_goes 55 = .ok (.getfield 10, 3) := by decide +kernel
theorem dX10_goes_58 : decode cX10_goes 58 = .ok (.getfield 70, 3) := by decide +kernel
theorem dX10_goes_61 : decode cX10_goes 61 = .ok (.iload_n 1, 1) := by decide +kernel
theorem dX10_goes_62 : decode cX10_goes 62 = .ok (.iload_n 2, 1) := by decide +kernel
theorem dX10_goes_63 : decode cX10_goes 63 = .ok (.invokevirtual 187, 3) := by decide +kernel
theorem dX10_goes_66 : decode cX10_goes 66 = .ok (.ireturn, 1) := by decide +kernel
def fX10_goes_26 (v0 : Nat) (h : gx_H) : Option (Int32 × gx_H) :=
  gx_bd (fX10_refuse v0 (-2 : Int32) h) fun x19 h18 =>
  some (x19, h18)
def fX10_goes (v0 : Nat) (v1 : Int32) (v2 : Int32) (h : gx_H) : Option (Int32 × gx_H) :=
  (gx_isO h v0 8).bind fun _ =>
  gx_bd (fX10_isPlayer v0 v1 h) fun x2 h1 =>
  if x2 = 0 then
    fX10_goes_26 v0 h1
  else
    (gx_fR h1 v0 8 0).bind fun a3 =>
    (gx_fR h1 a3 1 0).bind fun a4 =>
    (gx_fI h1 a4 0 1).bind fun x5 =>
    gx_bd (fX10_within v2 (1 : Int32) x5 h1) fun x7 h6 =>
    if x7 = 0 then
      fX10_goes_26 v0 h6
    else
      (gx_fR h6 v0 8 0).bind fun a8 =>
      (gx_fR h6 a8 1 0).bind fun a9 =>
      gx_bd (fX0_isHome a9 v1 h6) fun x11 h10 =>
      if x11 = 0 then
        (gx_fR h10 v0 8 0).bind fun a12 =>
        (gx_fR h10 a12 1 0).bind fun a13 =>
        gx_bd (fX0_landing a13 v1 v2 h10) fun x15 h14 =>
        some (x15, h14)
      else
        gx_bd (fX10_refuse v0 (-3 : Int32) h10) fun x17 h16 =>
        some (x17, h16)
set_option maxRecDepth 100000 in
set_option maxHeartbeats 4000000 in
theorem gX10_goes_26 {E : gx_Env} {d : Nat}  : ∀ (v0 : Nat) (h : gx_H), gx_G E RX10 cX10_goes 3 (some .int) false (d + 4) 0 0 26 [some (.ref v0), none, none] [] h (fun x : Int32 => some (.int x)) (fX10_goes_26 v0 h) := by
  intro v0 h
  unfold fX10_goes_26
  refine gx_aload_n 0 dX10_goes_26 rfl rfl ?_
  refine gx_bipush (-2 : Int32) dX10_goes_27 (by decide) ?_
  refine gx_callV (ci := 8) (bc := 0) (bs := 0) (mc := 0) (ms := 0) (em' := (fun x : Int32 => some (.int x))) [.int (-2 : Int32)] kc_RX10_66 rfl dX10_goes_29 rfl rfl (gx_w8 rfl) (fun x q => (gx_isO_of (by unfold fX10_refuse at q; exact q)).2) (fun _ _ q => okX10_refuse (d + 3) q) (fun x19 h18 => ?_)
  exact gx_iret dX10_goes_32 rfl
set_option maxRecDepth 100000 in
set_option maxHeartbeats 4000000 in
theorem geX10_goes {E : gx_Env} {d : Nat} (v0 : Nat) (v1 : Int32) (v2 : Int32) (h : gx_H) : gx_G E RX10 cX10_goes 3 (some .int) false (d + 4) 0 0 0 [some (.ref v0), some (.int v1), some (.int v2)] [] h (fun x : Int32 => some (.int x)) (fX10_goes v0 v1 v2 h) := by
  unfold fX10_goes
  refine gx_bind fun _ _ => ?_
  refine gx_aload_n 0 dX10_goes_0 rfl rfl ?_
  refine gx_iload_n 1 dX10_goes_1 rfl rfl ?_
  refine gx_callV (ci := 8) (bc := 0) (bs := 0) (mc := 0) (ms := 0) (em' := (fun x : Int32 => some (.int x))) [.int v1] kc_RX10_134 rfl dX10_goes_2 rfl rfl (gx_w8 rfl) (fun x q => (gx_isO_of (by unfold fX10_isPlayer at q; exact q)).2) (fun _ _ q => okX10_isPlayer (d + 2) q) (fun x2 h1 => ?_)
  refine gx_if_eq 26 dX10_goes_5 (by decide) (fun _ => ?_) (fun _ => ?_)
  · exact gx_sub (gX10_goes_26 v0 h1) (And.intro rfl True.intro)
  · refine gx_iload_n 2 dX10_goes_8 rfl rfl ?_
    refine gx_iconst (1 : Int32) dX10_goes_9 (by decide) ?_
    refine gx_aload_n 0 dX10_goes_10 rfl rfl ?_
    refine gx_getR kf_RX10_10 dX10_goes_11 (fun a3 => ?_)
    refine gx_getR kf_RX10_70 dX10_goes_14 (fun a4 => ?_)
    refine gx_getI kf_RX10_86 dX10_goes_17 (fun x5 => ?_)
    refine gx_callS (bc := 0) (bs := 0) (mc := 0) (ms := 0) (em' := (fun x : Int32 => some (.int x))) [.int v2, .int (1 : Int32), .int x5] kc_RX10_62 dX10_goes_20 rfl rfl (gx_w8 rfl) (fun _ _ q => okX10_within (d + 3) q) (fun x7 h6 => ?_)
    refine gx_if_ne 33 dX10_goes_23 (by decide) (fun _ => ?_) (fun _ => ?_)
    · refine gx_aload_n 0 dX10_goes_33 rfl rfl ?_
      refine gx_getR kf_RX10_10 dX10_goes_34 (fun a8 => ?_)
      refine gx_getR kf_RX10_70 dX10_goes_37 (fun a9 => ?_)
      refine gx_iload_n 1 dX10_goes_40 rfl rfl ?_
      refine gx_callV (ci := 0) (bc := 0) (bs := 0) (mc := 0) (ms := 0) (em' := (fun x : Int32 => some (.int x))) [.int v1] kc_RX10_138 rfl dX10_goes_41 rfl rfl (gx_w8 rfl) (fun x q => (gx_isO_of (by unfold fX0_isHome at q; exact q)).2) (fun _ _ q => okX0_isHome (d + 3) q) (fun x11 h10 => ?_)
      refine gx_if_eq 54 dX10_goes_44 (by decide) (fun _ => ?_) (fun _ => ?_)
      · refine gx_aload_n 0 dX10_goes_54 rfl rfl ?_
        refine gx_getR kf_RX10_10 dX10_goes_55 (fun a12 => ?_)
        refine gx_getR kf_RX10_70 dX10_goes_58 (fun a13 => ?_)
        refine gx_iload_n 1 dX10_goes_61 rfl rfl ?_
        refine gx_iload_n 2 dX10_goes_62 rfl rfl ?_
        refine gx_callV (ci := 0) (bc := 0) (bs := 0) (mc := 0) (ms := 0) (em' := (fun x : Int32 => some (.int x))) [.int v1, .int v2] kc_RX10_187 rfl dX10_goes_63 rfl rfl (gx_w8 rfl) (fun x q => (gx_isO_of (by unfold fX0_landing at q; exact q)).2) (fun _ _ q => okX0_landing d q) (fun x15 h14 => ?_)
        exact gx_iret dX10_goes_66 rfl
      · refine gx_aload_n 0 dX10_goes_47 rfl rfl ?_
        refine gx_bipush (-3 : Int32) dX10_goes_48 (by decide) ?_
        refine gx_callV (ci := 8) (bc := 0) (bs := 0) (mc := 0) (ms := 0) (em' := (fun x : Int32 => some (.int x))) [.int (-3 : Int32)] kc_RX10_66 rfl dX10_goes_50 rfl rfl (gx_w8 rfl) (fun x q => (gx_isO_of (by unfold fX10_refuse at q; exact q)).2) (fun _ _ q => okX10_refuse (d + 3) q) (fun x17 h16 => ?_)
        exact gx_iret dX10_goes_53 rfl
    · exact gx_sub (gX10_goes_26 v0 h6) (And.intro rfl True.intro)
theorem okX10_goes {E : gx_Env} (d : Nat) {v0 : Nat} {v1 : Int32} {v2 : Int32} {h : gx_H} {r : Int32} {h1 : gx_H} (q : fX10_goes v0 v1 v2 h = some (r, h1)) : gx_M E yX10_goes cX10_goes 3 (some .int) (d + 4) 0 0 [.ref v0, .int v1, .int v2] h ((fun x : Int32 => some (.int x)) r) h1 := gx_meth (y := yX10_goes) (cc := cX10_goes) (nL := 3) (em := (fun x : Int32 => some (.int x))) (ini := false) [.ref v0, .int v1, .int v2] (by decide) (by simp [gx_sl]) (fun q => by cases q) (geX10_goes v0 v1 v2 h) q
theorem dX10_refuseByTen_0 : decode cX10_refuseByTen 0 = .ok (.aload_n 0, 1) := by decide +kernel
theorem dX10_refuseByTen_1 : decode cX10_refuseByTen 1 = .ok (.bipush (-2), 2) := by decide +kernel
theorem dX10_refuseByTen_3 : decode cX10_refuseByTen 3 = .ok (.invokevirtual 66, 3) := by decide +kernel
theorem dX10_refuseByTen_6 : decode cX10_refuseByTen 6 = .ok (.pop, 1) := by decide +kernel
theorem dX10_refuseByTen_7 : decode cX10_refuseByTen 7 = .ok (.bipush (-10), 2) := by decide +kernel
theorem dX10_refuseByTen_9 : decode cX10_refuseByTen 9 = .ok (.ireturn, 1) := by decide +kernel
def fX10_refuseByTen (v0 : Nat) (h : gx_H) : Option (Int32 × gx_H) :=
  (gx_isO h v0 8).bind fun _ =>
  gx_bd (fX10_refuse v0 (-2 : Int32) h) fun x2 h1 =>
  some ((-10 : Int32), h1)
set_option maxRecDepth 100000 in
set_option maxHeartbeats 4000000 in
theorem geX10_refuseByTen {E : gx_Env} {d : Nat} (v0 : Nat) (h : gx_H) : gx_G E RX10 cX10_refuseByTen 1 (some .int) false (d + 1) 0 0 0 [some (.ref v0)] [] h (fun x : Int32 => some (.int x)) (fX10_refuseByTen v0 h) := by
  unfold fX10_refuseByTen
  refine gx_bind fun _ _ => ?_
  refine gx_aload_n 0 dX10_refuseByTen_0 rfl rfl ?_
  refine gx_bipush (-2 : Int32) dX10_refuseByTen_1 (by decide) ?_
  refine gx_callV (ci := 8) (bc := 0) (bs := 0) (mc := 0) (ms := 0) (em' := (fun x : Int32 => some (.int x))) [.int (-2 : Int32)] kc_RX10_66 rfl dX10_refuseByTen_3 rfl rfl (gx_w8 rfl) (fun x q => (gx_isO_of (by unfold fX10_refuse at q; exact q)).2) (fun _ _ q => okX10_refuse d q) (fun x2 h1 => ?_)
  refine gx_pop dX10_refuseByTen_6 rfl ?_
  refine gx_bipush (-10 : Int32) dX10_refuseByTen_7 (by decide) ?_
  exact gx_iret dX10_refuseByTen_9 rfl
theorem okX10_refuseByTen {E : gx_Env} (d : Nat) {v0 : Nat} {h : gx_H} {r : Int32} {h1 : gx_H} (q : fX10_refuseByTen v0 h = some (r, h1)) : gx_M E yX10_refuseByTen cX10_refuseByTen 1 (some .int) (d + 1) 0 0 [.ref v0] h ((fun x : Int32 => some (.int x)) r) h1 := gx_meth (y := yX10_refuseByTen) (cc := cX10_refuseByTen) (nL := 1) (em := (fun x : Int32 => some (.int x))) (ini := false) [.ref v0] (by decide) (by simp [gx_sl]) (fun q => by cases q) (geX10_refuseByTen v0 h) q
theorem dX10_few_0 : decode cX10_few 0 = .ok (.aload_n 0, 1) := by decide +kernel
theorem dX10_few_1 : decode cX10_few 1 = .ok (.iload_n 1, 1) := by decide +kernel
theorem dX10_few_2 : decode cX10_few 2 = .ok (.invokevirtual 134, 3) := by decide +kernel
theorem dX10_few_5 : decode cX10_few 5 = .ok (.ifCond .eq 8, 3) := by decide +kernel
theorem dX10_few_8 : decode cX10_few 8 = .ok (.iload_n 2, 1) := by decide +kernel
theorem dX10_few_9 : decode cX10_few 9 = .ok (.iconst (-1), 1) := by decide +kernel
theorem dX10_few_10 : decode cX10_few 10 = .ok (.if_icmp .ge 8, 3) := by decide +kernel
theorem dX10_few_13 : decode cX10_few 13 = .ok (.aload_n 0, 1) := by decide +kernel
theorem dX10_few_14 : decode cX10_few 14 = .ok (.invokevirtual 191, 3) := by decide +kernel
theorem dX10_few_17 : decode cX10_few 17 = .ok (.ireturn, 1) := by decide +kernel
theorem dX10_few_18 : decode cX10_few 18 = .ok (.aload_n 0, 1) := by decide +kernel
theorem dX10_few_19 : decode cX10_few 19 = .ok (.getfield 34, 3) := by decide +kernel
theorem dX10_few_22 : decode cX10_few 22 = .ok (.aload_n 0, 1) := by decide +kernel
theorem dX10_few_23 : decode cX10_few 23 = .ok (.getfield 10, 3) := by decide +kernel
theorem dX10_few_26 : decode cX10_few 26 = .ok (.getfield 70, 3) := by decide +kernel
theorem dX10_few_29 : decode cX10_few 29 = .ok (.iload_n 1, 1) := by decide +kernel
theorem dX10_few_30 : decode cX10_few 30 = .ok (.invokevirtual 194, 3) := by decide +kernel
theorem dX10_few_33 : decode cX10_few 33 = .ok (.istore_n 3, 1) := by decide +kernel
theorem dX10_few_34 : decode cX10_few 34 = .ok (.iload_n 3, 1) := by decide +kernel
theorem dX10_few_35 : decode cX10_few 35 = .ok (.iconst (-1), 1) := by decide +kernel
theorem dX10_few_36 : decode cX10_few 36 = .ok (.if_icmp .ne 6, 3) := by decide +kernel
theorem dX10_few_39 : decode cX10_few 39 = .ok (.bipush (-6), 2) := by decide +kernel
theorem dX10_few_41 : decode cX10_few 41 = .ok (.ireturn, 1) := by decide +kernel
theorem dX10_few_42 : decode cX10_few 42 = .ok (.iload_n 2, 1) := by decide +kernel
theorem dX10_few_43 : decode cX10_few 43 = .ok (.iconst (-1), 1) := by decide +kernel
theorem dX10_few_44 : decode cX10_few 44 = .ok (.if_icmp .ne 5, 3) := by decide +kernel
theorem dX10_few_47 : decode cX10_few 47 = .ok (.iload_n 3, 1) := by decide +kernel
theorem dX10_few_48 : decode cX10_few 48 = .ok (.ireturn, 1) := by decide +kernel
theorem dX10_few_49 : decode cX10_few 49 = .ok (.iload_n 2, 1) := by decide +kernel
theorem dX10_few_50 : decode cX10_few 50 = .ok (.iload_n 3, 1) := by decide +kernel
theorem dX10_few_51 : decode cX10_few 51 = .ok (.if_icmp .ge 14, 3) := by decide +kernel
theorem dX10_few_54 : decode cX10_few 54 = .ok (.aload_n 0, 1) := by decide +kernel
theorem dX10_few_55 : decode cX10_few 55 = .ok (.getfield 34, 3) := by decide +kernel
theorem dX10_few_58 : decode cX10_few 58 = .ok (.iload_n 2, 1) := by decide +kernel
theorem dX10_few_59 : decode cX10_few 59 = .ok (.invokevirtual 198, 3) := by decide +kernel
theorem dX10_few_62 : decode cX10_few 62 = .ok (.goto 5, 3) := by decide +kernel
theorem dX10_few_65 : decode cX10_few 65 = .ok (.bipush (-5), 2) := by decide +kernel
theorem dX10_few_67 : decode cX10_few 67 = .ok (.ireturn, 1) := by decide +kernel
def fX10_few_13 (v0 : Nat) (h : gx_H) : Option (Int32 × gx_H) :=
  gx_bd (fX10_refuseByTen v0 h) fun x12 h11 =>
  some (x12, h11)
def fX10_few_67 (s0 : Int32) (h : gx_H) : Option (Int32 × gx_H) :=
  some (s0, h)
def fX10_few (v0 : Nat) (v1 : Int32) (v2 : Int32) (h : gx_H) : Option (Int32 × gx_H) :=
  (gx_isO h v0 8).bind fun _ =>
  gx_bd (fX10_isPlayer v0 v1 h) fun x2 h1 =>
  if x2 = 0 then
    fX10_few_13 v0 h1
  else
    if (-1 : Int32) ≤ v2 then
      (gx_fR h1 v0 8 4).bind fun a3 =>
      (gx_fR h1 v0 8 0).bind fun a4 =>
      (gx_fR h1 a4 1 0).bind fun a5 =>
      gx_bd (fX5_fewest a3 a5 v1 h1) fun x7 h6 =>
      if x7 = (-1 : Int32) then
        some ((-6 : Int32), h6)
      else
        if v2 = (-1 : Int32) then
          some (x7, h6)
        else
          if x7 ≤ v2 then
            fX10_few_67 (-5 : Int32) h6
          else
            (gx_fR h6 v0 8 4).bind fun a8 =>
            gx_bd (fX5_rowAt a8 v2 h6) fun x10 h9 =>
            fX10_few_67 x10 h9
    else
      fX10_few_13 v0 h1
set_option maxRecDepth 100000 in
set_option maxHeartbeats 4000000 in
theorem gX10_few_13 {E : gx_Env} {d : Nat}  : ∀ (v0 : Nat) (h : gx_H), gx_G E RX10 cX10_few 4 (some .int) false (d + 13) 0 0 13 [some (.ref v0), none, none, none] [] h (fun x : Int32 => some (.int x)) (fX10_few_13 v0 h) := by
  intro v0 h
  unfold fX10_few_13
  refine gx_aload_n 0 dX10_few_13 rfl rfl ?_
  refine gx_callV (ci := 8) (bc := 0) (bs := 0) (mc := 0) (ms := 0) (em' := (fun x : Int32 => some (.int x))) [] kc_RX10_191 rfl dX10_few_14 rfl rfl (gx_w8 rfl) (fun x q => (gx_isO_of (by unfold fX10_refuseByTen at q; exact q)).2) (fun _ _ q => okX10_refuseByTen (d + 11) q) (fun x12 h11 => ?_)
  exact gx_iret dX10_few_17 rfl
set_option maxRecDepth 100000 in
set_option maxHeartbeats 4000000 in
theorem gX10_few_67 {E : gx_Env} {d : Nat}  : ∀ (s0 : Int32) (h : gx_H), gx_G E RX10 cX10_few 4 (some .int) false (d + 13) 0 0 67 [none, none, none, none] [.int s0] h (fun x : Int32 => some (.int x)) (fX10_few_67 s0 h) := by
  intro s0 h
  unfold fX10_few_67
  exact gx_iret dX10_few_67 rfl
set_option maxRecDepth 100000 in
set_option maxHeartbeats 4000000 in
theorem geX10_few {E : gx_Env} {d : Nat} (v0 : Nat) (v1 : Int32) (v2 : Int32) (h : gx_H) : gx_G E RX10 cX10_few 4 (some .int) false (d + 13) 0 0 0 [some (.ref v0), some (.int v1), some (.int v2), none] [] h (fun x : Int32 => some (.int x)) (fX10_few v0 v1 v2 h) := by
  unfold fX10_few
  refine gx_bind fun _ _ => ?_
  refine gx_aload_n 0 dX10_few_0 rfl rfl ?_
  refine gx_iload_n 1 dX10_few_1 rfl rfl ?_
  refine gx_callV (ci := 8) (bc := 0) (bs := 0) (mc := 0) (ms := 0) (em' := (fun x : Int32 => some (.int x))) [.int v1] kc_RX10_134 rfl dX10_few_2 rfl rfl (gx_w8 rfl) (fun x q => (gx_isO_of (by unfold fX10_isPlayer at q; exact q)).2) (fun _ _ q => okX10_isPlayer (d + 11) q) (fun x2 h1 => ?_)
  refine gx_if_eq 13 dX10_few_5 (by decide) (fun _ => ?_) (fun _ => ?_)
  · exact gx_sub (gX10_few_13 v0 h1) (And.intro rfl True.intro)
  · refine gx_iload_n 2 dX10_few_8 rfl rfl ?_
    refine gx_iconst (-1 : Int32) dX10_few_9 (by decide) ?_
    refine gx_icmp_ge 18 dX10_few_10 (by decide) (fun _ => ?_) (fun _ => ?_)
    · refine gx_aload_n 0 dX10_few_18 rfl rfl ?_
      refine gx_getR kf_RX10_34 dX10_few_19 (fun a3 => ?_)
      refine gx_aload_n 0 dX10_few_22 rfl rfl ?_
      refine gx_getR kf_RX10_10 dX10_few_23 (fun a4 => ?_)
      refine gx_getR kf_RX10_70 dX10_few_26 (fun a5 => ?_)
      refine gx_iload_n 1 dX10_few_29 rfl rfl ?_
      refine gx_callV (ci := 4) (bc := 0) (bs := 0) (mc := 0) (ms := 0) (em' := (fun x : Int32 => some (.int x))) [.ref a5, .int v1] kc_RX10_194 rfl dX10_few_30 rfl rfl (gx_w8 rfl) (fun x q => (gx_isO_of (by unfold fX5_fewest at q; exact q)).2) (fun _ _ q => okX5_fewest d q) (fun x7 h6 => ?_)
      refine gx_istore_n 3 [some (.ref v0), some (.int v1), some (.int v2), some (.int x7)] dX10_few_33 rfl (by decide) rfl ?_
      refine gx_iload_n 3 dX10_few_34 rfl rfl ?_
      refine gx_iconst (-1 : Int32) dX10_few_35 (by decide) ?_
      refine gx_icmp_ne 42 dX10_few_36 (by decide) (fun _ => ?_) (fun _ => ?_)
      · refine gx_iload_n 2 dX10_few_42 rfl rfl ?_
        refine gx_iconst (-1 : Int32) dX10_few_43 (by decide) ?_
        refine gx_icmp_ne 49 dX10_few_44 (by decide) (fun _ => ?_) (fun _ => ?_)
        · refine gx_iload_n 2 dX10_few_49 rfl rfl ?_
          refine gx_iload_n 3 dX10_few_50 rfl rfl ?_
          refine gx_icmp_ge 65 dX10_few_51 (by decide) (fun _ => ?_) (fun _ => ?_)
          · refine gx_bipush (-5 : Int32) dX10_few_65 (by decide) ?_
            exact gx_sub (gX10_few_67 (-5 : Int32) h6) True.intro
          · refine gx_aload_n 0 dX10_few_54 rfl rfl ?_
            refine gx_getR kf_RX10_34 dX10_few_55 (fun a8 => ?_)
            refine gx_iload_n 2 dX10_few_58 rfl rfl ?_
            refine gx_callV (ci := 4) (bc := 0) (bs := 0) (mc := 0) (ms := 0) (em' := (fun x : Int32 => some (.int x))) [.int v2] kc_RX10_198 rfl dX10_few_59 rfl rfl (gx_w8 rfl) (fun x q => (gx_isO_of (by unfold fX5_rowAt at q; exact q)).2) (fun _ _ q => okX5_rowAt (d + 11) q) (fun x10 h9 => ?_)
            refine gx_goto 67 dX10_few_62 (by decide) ?_
            exact gx_sub (gX10_few_67 x10 h9) True.intro
        · refine gx_iload_n 3 dX10_few_47 rfl rfl ?_
          exact gx_iret dX10_few_48 rfl
      · refine gx_bipush (-6 : Int32) dX10_few_39 (by decide) ?_
        exact gx_iret dX10_few_41 rfl
    · exact gx_sub (gX10_few_13 v0 h1) (And.intro rfl True.intro)
theorem okX10_few {E : gx_Env} (d : Nat) {v0 : Nat} {v1 : Int32} {v2 : Int32} {h : gx_H} {r : Int32} {h1 : gx_H} (q : fX10_few v0 v1 v2 h = some (r, h1)) : gx_M E yX10_few cX10_few 4 (some .int) (d + 13) 0 0 [.ref v0, .int v1, .int v2] h ((fun x : Int32 => some (.int x)) r) h1 := gx_meth (y := yX10_few) (cc := cX10_few) (nL := 4) (em := (fun x : Int32 => some (.int x))) (ini := false) [.ref v0, .int v1, .int v2] (by decide) (by simp [gx_sl]) (fun q => by cases q) (geX10_few v0 v1 v2 h) q
theorem dX10_commonDivisor_0 : decode cX10_commonDivisor 0 = .ok (.lload_n 0, 1) := by decide +kernel
theorem dX10_commonDivisor_1 : decode cX10_commonDivisor 1 = .ok (.lstore 4, 2) := by decide +kernel
theorem dX10_commonDivisor_3 : decode cX10_commonDivisor 3 = .ok (.lload_n 2, 1) := by decide +kernel
theorem dX10_commonDivisor_4 : decode cX10_commonDivisor 4 = .ok (.lstore 6, 2) := by decide +kernel
theorem dX10_commonDivisor_6 : decode cX10_commonDivisor 6 = .ok (.iconst 0, 1) := by decide +kernel
theorem dX10_commonDivisor_7 : decode cX10_commonDivisor 7 = .ok (.istore 8, 2) := by decide +kernel
theorem dX10_commonDivisor_9 : decode cX10_commonDivisor 9 = .ok (.iload 8, 2) := by decide +kernel
theorem dX10_commonDivisor_11 : decode cX10_commonDivisor 11 = .ok (.sipush 200, 3) := by decide +kernel
theorem dX10_commonDivisor_14 : decode cX10_commonDivisor 14 = .ok (.if_icmp .ge 31, 3) := by decide +kernel
theorem dX10_commonDivisor_17 : decode cX10_commonDivisor 17 = .ok (.lload 6, 2) := by decide +kernel
theorem dX10_commonDivisor_19 : decode cX10_commonDivisor 19 = .ok (.lconst 0, 1) := by decide +kernel
theorem dX10_commonDivisor_20 : decode cX10_commonDivisor 20 = .ok (.lcmp, 1) := by decide +kernel
theorem dX10_commonDivisor_21 : decode cX10_commonDivisor 21 = .ok (.ifCond .eq 24, 3) := by decide +kernel
theorem dX10_commonDivisor_24 : decode cX10_commonDivisor 24 = .ok (.lload 4, 2) := by decide +kernel
theorem dX10_commonDivisor_26 : decode cX10_commonDivisor 26 = .ok (.lload 6, 2) := by decide +kernel
theorem dX10_commonDivisor_28 : decode cX10_commonDivisor 28 = .ok (.lrem, 1) := by decide +kernel
theorem dX10_commonDivisor_29 : decode cX10_commonDivisor 29 = .ok (.lstore 9, 2) := by decide +kernel
theorem dX10_commonDivisor_31 : decode cX10_commonDivisor 31 = .ok (.lload 6, 2) := by decide +kernel
theorem dX10_commonDivisor_33 : decode cX10_commonDivisor 33 = .ok (.lstore 4, 2) := by decide +kernel
theorem dX10_commonDivisor_35 : decode cX10_commonDivisor 35 = .ok (.lload 9, 2) := by decide +kernel
theorem dX10_commonDivisor_37 : decode cX10_commonDivisor 37 = .ok (.lstore 6, 2) := by decide +kernel
theorem dX10_commonDivisor_39 : decode cX10_commonDivisor 39 = .ok (.iinc 8 1, 3) := by decide +kernel
theorem dX10_commonDivisor_42 : decode cX10_commonDivisor 42 = .ok (.goto (-33), 3) := by decide +kernel
theorem dX10_commonDivisor_45 : decode cX10_commonDivisor 45 = .ok (.lload 4, 2) := by decide +kernel
theorem dX10_commonDivisor_47 : decode cX10_commonDivisor 47 = .ok (.lreturn, 1) := by decide +kernel
def fX10_commonDivisor_45 (v4 : Int64) (h : gx_H) : Option (Int64 × gx_H) :=
  some (v4, h)
def bX10_commonDivisor_9 (k9 : Int64 → Int64 → Int32 → gx_H → Option (Int64 × gx_H)) (v4 : Int64) (v6 : Int64) (v8 : Int32) (h : gx_H) : Option (Int64 × gx_H) :=
  if (200 : Int32) ≤ v8 then
    fX10_commonDivisor_45 v4 h
  else
    if (lg_cmp v6 (0 : Int64)) = 0 then
      fX10_commonDivisor_45 v4 h
    else
      (gx_rJ v4 v6).bind fun z1 =>
      k9 v6 z1 (v8 + (1 : Int32)) h
def fX10_commonDivisor_9 : Nat → Int64 → Int64 → Int32 → gx_H → Option (Int64 × gx_H)
  | 0 => fun _ _ _ _ => none
  | n + 1 => bX10_commonDivisor_9 (fX10_commonDivisor_9 n)
def fX10_commonDivisor (v0 : Int64) (v2 : Int64) (h : gx_H) : Option (Int64 × gx_H) :=
  fX10_commonDivisor_9 gx_N v0 v2 (0 : Int32) h
set_option maxRecDepth 100000 in
set_option maxHeartbeats 4000000 in
theorem gX10_commonDivisor_45 {E : gx_Env} {d : Nat}  : ∀ (v4 : Int64) (h : gx_H), gx_G E RX10 cX10_commonDivisor 11 (some .long) false d 0 0 45 [none, none, none, none, some (.long v4), none, none, none, none, none, none] [] h (fun x : Int64 => some (.long x)) (fX10_commonDivisor_45 v4 h) := by
  intro v4 h
  unfold fX10_commonDivisor_45
  refine gx_lload dX10_commonDivisor_45 rfl ?_
  exact gx_lret dX10_commonDivisor_47 rfl
set_option maxRecDepth 100000 in
set_option maxHeartbeats 4000000 in
theorem gbX10_commonDivisor_9 {E : gx_Env} {d : Nat}  (k9 : Int64 → Int64 → Int32 → gx_H → Option (Int64 × gx_H)) (hk9 : ∀ (v4 : Int64) (v6 : Int64) (v8 : Int32) (h : gx_H), gx_G E RX10 cX10_commonDivisor 11 (some .long) false d 0 0 9 [none, none, none, none, some (.long v4), none, some (.long v6), none, some (.int v8), none, none] [] h (fun x : Int64 => some (.long x)) (k9 v4 v6 v8 h))  : ∀ (v4 : Int64) (v6 : Int64) (v8 : Int32) (h : gx_H), gx_G E RX10 cX10_commonDivisor 11 (some .long) false d 0 0 9 [none, none, none, none, some (.long v4), none, some (.long v6), none, some (.int v8), none, none] [] h (fun x : Int64 => some (.long x)) (bX10_commonDivisor_9 k9 v4 v6 v8 h) := by
  intro v4 v6 v8 h
  unfold bX10_commonDivisor_9
  refine gx_iload dX10_commonDivisor_9 rfl ?_
  refine gx_sipush (200 : Int32) dX10_commonDivisor_11 (by decide) ?_
  refine gx_icmp_ge 45 dX10_commonDivisor_14 (by decide) (fun _ => ?_) (fun _ => ?_)
  · exact gx_sub (gX10_commonDivisor_45 v4 h) (And.intro rfl True.intro)
  · refine gx_lload dX10_commonDivisor_17 rfl ?_
    refine gx_lconst (0 : Int64) dX10_commonDivisor_19 (by decide) ?_
    refine gx_lcmp dX10_commonDivisor_20 ?_
    refine gx_if_eq 45 dX10_commonDivisor_21 (by decide) (fun _ => ?_) (fun _ => ?_)
    · exact gx_sub (gX10_commonDivisor_45 v4 h) (And.intro rfl True.intro)
    · refine gx_lload dX10_commonDivisor_24 rfl ?_
      refine gx_lload dX10_commonDivisor_26 rfl ?_
      refine gx_lrem dX10_commonDivisor_28 (fun z1 => ?_)
      refine gx_lstore [none, none, none, none, some (.long v4), none, some (.long v6), none, some (.int v8), some (.long z1), none] dX10_commonDivisor_29 (by decide) rfl ?_
      refine gx_lload dX10_commonDivisor_31 rfl ?_
      refine gx_lstore [none, none, none, none, some (.long v6), none, some (.long v6), none, some (.int v8), some (.long z1), none] dX10_commonDivisor_33 (by decide) rfl ?_
      refine gx_lload dX10_commonDivisor_35 rfl ?_
      refine gx_lstore [none, none, none, none, some (.long v6), none, some (.long z1), none, some (.int v8), some (.long z1), none] dX10_commonDivisor_37 (by decide) rfl ?_
      refine gx_iinc (1 : Int32) [none, none, none, none, some (.long v6), none, some (.long z1), none, some (.int (v8 + (1 : Int32))), some (.long z1), none] dX10_commonDivisor_39 rfl (by decide) (by decide) rfl ?_
      refine gx_goto 9 dX10_commonDivisor_42 (by decide) ?_
      exact gx_sub (hk9 v6 z1 (v8 + (1 : Int32)) h) (And.intro rfl (And.intro rfl (And.intro rfl True.intro)))
set_option maxRecDepth 100000 in
set_option maxHeartbeats 4000000 in
theorem gX10_commonDivisor_9 {E : gx_Env} {d : Nat}  : ∀ (n : Nat) (v4 : Int64) (v6 : Int64) (v8 : Int32) (h : gx_H), gx_G E RX10 cX10_commonDivisor 11 (some .long) false d 0 0 9 [none, none, none, none, some (.long v4), none, some (.long v6), none, some (.int v8), none, none] [] h (fun x : Int64 => some (.long x)) (fX10_commonDivisor_9 n v4 v6 v8 h) := by
  intro n
  induction n with
  | zero => intro v4 v6 v8 h; exact gx_none
  | succ n ih => exact gbX10_commonDivisor_9  (fX10_commonDivisor_9  n) ih
set_option maxRecDepth 100000 in
set_option maxHeartbeats 4000000 in
theorem geX10_commonDivisor {E : gx_Env} {d : Nat} (v0 : Int64) (v2 : Int64) (h : gx_H) : gx_G E RX10 cX10_commonDivisor 11 (some .long) false d 0 0 0 [some (.long v0), none, some (.long v2), none, none, none, none, none, none, none, none] [] h (fun x : Int64 => some (.long x)) (fX10_commonDivisor v0 v2 h) := by
  unfold fX10_commonDivisor
  refine gx_lload_n 0 dX10_commonDivisor_0 rfl rfl ?_
  refine gx_lstore [some (.long v0), none, some (.long v2), none, some (.long v0), none, none, none, none, none, none] dX10_commonDivisor_1 (by decide) rfl ?_
  refine gx_lload_n 2 dX10_commonDivisor_3 rfl rfl ?_
  refine gx_lstore [some (.long v0), none, some (.long v2), none, some (.long v0), none, some (.long v2), none, none, none, none] dX10_commonDivisor_4 (by decide) rfl ?_
  refine gx_iconst (0 : Int32) dX10_commonDivisor_6 (by decide) ?_
  refine gx_istore [some (.long v0), none, some (.long v2), none, some (.long v0), none, some (.long v2), none, some (.int (0 : Int32)), none, none] dX10_commonDivisor_7 (by decide) rfl ?_
  exact gx_sub (gX10_commonDivisor_9 gx_N v0 v2 (0 : Int32) h) (And.intro rfl (And.intro rfl (And.intro rfl True.intro)))
theorem okX10_commonDivisor {E : gx_Env} (d : Nat) {v0 : Int64} {v2 : Int64} {h : gx_H} {r : Int64} {h1 : gx_H} (q : fX10_commonDivisor v0 v2 h = some (r, h1)) : gx_M E yX10_commonDivisor cX10_commonDivisor 11 (some .long) d 0 0 [.long v0, .long v2] h ((fun x : Int64 => some (.long x)) r) h1 := gx_meth (y := yX10_commonDivisor) (cc := cX10_commonDivisor) (nL := 11) (em := (fun x : Int64 => some (.long x))) (ini := false) [.long v0, .long v2] (by decide) (by simp [gx_sl]) (fun q => by cases q) (geX10_commonDivisor v0 v2 h) q
theorem dX10_keepFraction_0 : decode cX10_keepFraction 0 = .ok (.lload_n 1, 1) := by decide +kernel
theorem dX10_keepFraction_1 : decode cX10_keepFraction 1 = .ok (.lload_n 3, 1) := by decide +kernel
theorem dX10_keepFraction_2 : decode cX10_keepFraction 2 = .ok (.invokestatic 310, 3) := by decide +kernel
theorem dX10_keepFraction_5 : decode cX10_keepFraction 5 = .ok (.lstore 5, 2) := by decide +kernel
theorem dX10_keepFraction_7 : decode cX10_keepFraction 7 = .ok (.lload 5, 2) := by decide +kernel
theorem dX10_keepFraction_9 : decode cX10_keepFraction 9 = .ok (.lconst 0, 1) := by decide +kernel
theorem dX10_keepFraction_10 : decode cX10_keepFraction 10 = .ok (.lcmp, 1) := by decide +kernel
theorem dX10_keepFraction_11 : decode cX10_keepFraction 11 = .ok (.ifCond .le 19, 3) := by decide +kernel
theorem dX10_keepFraction_14 : decode cX10_keepFraction 14 = .ok (.aload_n 0, 1) := by decide +kernel
theorem dX10_keepFraction_15 : decode cX10_keepFraction 15 = .ok (.lload_n 1, 1) := by decide +kernel
theorem dX10_keepFraction_16 : decode cX10_keepFraction 16 = .ok (.lload 5, 2) := by decide +kernel
theorem dX10_keepFraction_18 : decode cX10_keepFraction 18 = .ok (.ldiv, 1) := by decide +kernel
theorem dX10_keepFraction_19 : decode cX10_keepFraction 19 = .ok (.putfield 45, 3) := by decide +kernel
theorem dX10_keepFraction_22 : decode cX10_keepFraction 22 = .ok (.aload_n 0, 1) := by decide +kernel
theorem dX10_keepFraction_23 : decode cX10_keepFraction 23 = .ok (.lload_n 3, 1) := by decide +kernel
theorem dX10_keepFraction_24 : decode cX10_keepFraction 24 = .ok (.lload 5, 2) := by decide +kernel
theorem dX10_keepFraction_26 : decode cX10_keepFraction 26 = .ok (.ldiv, 1) := by decide +kernel
theorem dX10_keepFraction_27 : decode cX10_keepFraction 27 = .ok (.putfield 49, 3) := by decide +kernel
theorem dX10_keepFraction_30 : decode cX10_keepFraction 30 = .ok (.iconst 1, 1) := by decide +kernel
theorem dX10_keepFraction_31 : decode cX10_keepFraction 31 = .ok (.ireturn, 1) := by decide +kernel
def fX10_keepFraction_30 (h : gx_H) : Option (Int32 × gx_H) :=
  some ((1 : Int32), h)
def fX10_keepFraction (v0 : Nat) (v1 : Int64) (v3 : Int64) (h : gx_H) : Option (Int32 × gx_H) :=
  (gx_isO h v0 8).bind fun _ =>
  gx_bd (fX10_commonDivisor v1 v3 h) fun y2 h1 =>
  if (lg_cmp y2 (0 : Int64)) ≤ 0 then
    fX10_keepFraction_30 h1
  else
    (gx_dJ v1 y2).bind fun z3 =>
    (gx_pF h1 v0 8 6 (.long z3)).bind fun h4 =>
    (gx_dJ v3 y2).bind fun z5 =>
    (gx_pF h4 v0 8 7 (.long z5)).bind fun h6 =>
    fX10_keepFraction_30 h6
set_option maxRecDepth 100000 in
set_option maxHeartbeats 4000000 in
theorem gX10_keepFraction_30 {E : gx_Env} {d : Nat}  : ∀  (h : gx_H), gx_G E RX10 cX10_keepFraction 7 (some .int) false (d + 1) 0 0 30 [none, none, none, none, none, none, none] [] h (fun x : Int32 => some (.int x)) (fX10_keepFraction_30 h) := by
  intro  h
  unfold fX10_keepFraction_30
  refine gx_iconst (1 : Int32) dX10_keepFraction_30 (by decide) ?_
  exact gx_iret dX10_keepFraction_31 rfl
set_option maxRecDepth 100000 in
set_option maxHeartbeats 4000000 in
theorem geX10_keepFraction {E : gx_Env} {d : Nat} (v0 : Nat) (v1 : Int64) (v3 : Int64) (h : gx_H) : gx_G E RX10 cX10_keepFraction 7 (some .int) false (d + 1) 0 0 0 [some (.ref v0), some (.long v1), none, some (.long v3), none, none, none] [] h (fun x : Int32 => some (.int x)) (fX10_keepFraction v0 v1 v3 h) := by
  unfold fX10_keepFraction
  refine gx_bind fun _ _ => ?_
  refine gx_lload_n 1 dX10_keepFraction_0 rfl rfl ?_
  refine gx_lload_n 3 dX10_keepFraction_1 rfl rfl ?_
  refine gx_callS (bc := 0) (bs := 0) (mc := 0) (ms := 0) (em' := (fun x : Int64 => some (.long x))) [.long v1, .long v3] kc_RX10_310 dX10_keepFraction_2 rfl rfl (gx_w8 rfl) (fun _ _ q => okX10_commonDivisor d q) (fun y2 h1 => ?_)
  refine gx_lstore [some (.ref v0), some (.long v1), none, some (.long v3), none, some (.long y2), none] dX10_keepFraction_5 (by decide) rfl ?_
  refine gx_lload dX10_keepFraction_7 rfl ?_
  refine gx_lconst (0 : Int64) dX10_keepFraction_9 (by decide) ?_
  refine gx_lcmp dX10_keepFraction_10 ?_
  refine gx_if_le 30 dX10_keepFraction_11 (by decide) (fun _ => ?_) (fun _ => ?_)
  · exact gx_sub (gX10_keepFraction_30 h1) True.intro
  · refine gx_aload_n 0 dX10_keepFraction_14 rfl rfl ?_
    refine gx_lload_n 1 dX10_keepFraction_15 rfl rfl ?_
    refine gx_lload dX10_keepFraction_16 rfl ?_
    refine gx_ldiv dX10_keepFraction_18 (fun z3 => ?_)
    refine gx_putJ kp_RX10_45 (fun q => by cases q) dX10_keepFraction_19 (fun h4 => ?_)
    refine gx_aload_n 0 dX10_keepFraction_22 rfl rfl ?_
    refine gx_lload_n 3 dX10_keepFraction_23 rfl rfl ?_
    refine gx_lload dX10_keepFraction_24 rfl ?_
    refine gx_ldiv dX10_keepFraction_26 (fun z5 => ?_)
    refine gx_putJ kp_RX10_49 (fun q => by cases q) dX10_keepFraction_27 (fun h6 => ?_)
    exact gx_sub (gX10_keepFraction_30 h6) True.intro
theorem okX10_keepFraction {E : gx_Env} (d : Nat) {v0 : Nat} {v1 : Int64} {v3 : Int64} {h : gx_H} {r : Int32} {h1 : gx_H} (q : fX10_keepFraction v0 v1 v3 h = some (r, h1)) : gx_M E yX10_keepFraction cX10_keepFraction 7 (some .int) (d + 1) 0 0 [.ref v0, .long v1, .long v3] h ((fun x : Int32 => some (.int x)) r) h1 := gx_meth (y := yX10_keepFraction) (cc := cX10_keepFraction) (nL := 7) (em := (fun x : Int32 => some (.int x))) (ini := false) [.ref v0, .long v1, .long v3] (by decide) (by simp [gx_sl]) (fun q => by cases q) (geX10_keepFraction v0 v1 v3 h) q
theorem dX10_home_0 : decode cX10_home 0 = .ok (.aload_n 0, 1) := by decide +kernel
theorem dX10_home_1 : decode cX10_home 1 = .ok (.iload_n 1, 1) := by decide +kernel
theorem dX10_home_2 : decode cX10_home 2 = .ok (.invokevirtual 134, 3) := by decide +kernel
theorem dX10_home_5 : decode cX10_home 5 = .ok (.ifCond .eq 12, 3) := by decide +kernel
theorem dX10_home_8 : decode cX10_home 8 = .ok (.iload_n 2, 1) := by decide +kernel
theorem dX10_home_9 : decode cX10_home 9 = .ok (.iconst 0, 1) := by decide +kernel
theorem dX10_home_10 : decode cX10_home 10 = .ok (.iconst 5, 1) := by decide +kernel
theorem dX10_home_11 : decode cX10_home 11 = .ok (.invokestatic 62, 3) := by decide +kernel
theorem dX10_home_14 : decode cX10_home 14 = .ok (.ifCond .ne 10, 3) := by decide +kernel
theorem dX10_home_17 : decode cX10_home 17 = .ok (.aload_n 0, 1) := by decide +kernel
theorem dX10_home_18 : decode cX10_home 18 = .ok (.bipush (-2), 2) := by decide +kernel
theorem dX10_home_20 : decode cX10_home 20 = .ok (.invokevirtual 66, 3) := by decide +kernel
theorem dX10_home_23 : decode cX10_home 23 = .ok (.ireturn, 1) := by decide +kernel
theorem dX10_home_24 : decode cX10_home 24 = .ok (.aload_n 0, 1) := by decide +kernel
theorem dX10_home_25 : decode cX10_home 25 = .ok (.getfield 34, 3) := by decide +kernel
theorem dX10_home_28 : decode cX10_home 28 = .ok (.aload_n 0, 1) := by decide +kernel
theorem dX10_home_29 : decode cX10_home 29 = .ok (.getfield 10, 3) := by decide +kernel
theorem dX10_home_32 : decode cX10_home 32 = .ok (.getfield 70, 3) := by decide +kernel
theorem dX10_home_35 : decode cX10_home 35 = .ok (.iload_n 1, 1) := by decide +kernel
theorem dX10_home_36 : decode cX10_home 36 = .ok (.iload_n 2, 1) := by decide +kernel
theorem dX10_home_37 : decode cX10_home 37 = .ok (.invokevirtual 201, 3) := by decide +kernel
theorem dX10_home_40 : decode cX10_home 40 = .ok (.aload_n 0, 1) := by decide +kernel
theorem dX10_home_41 : decode cX10_home 41 = .ok (.aload_n 0, 1) := by decide +kernel
theorem dX10_home_42 : decode cX10_home 42 = .ok (.getfield 34, 3) := by decide +kernel
theorem dX10_home_45 : decode cX10_home 45 = .ok (.invokevirtual 205, 3) := by decide +kernel
theorem dX10_home_48 : decode cX10_home 48 = .ok (.i2l, 1) := by decide +kernel
theorem dX10_home_49 : decode cX10_home 49 = .ok (.aload_n 0, 1) := by decide +kernel
theorem dX10_home_50 : decode cX10_home 50 = .ok (.getfield 10, 3) := by decide +kernel
theorem dX10_home_53 : decode cX10_home 53 = .ok (.getfield 70, 3) := by decide +kernel
theorem dX10_home_56 : decode cX10_home 56 = .ok (.getfield 86, 3) := by decide +kernel
theorem dX10_home_59 : decode cX10_home 59 = .ok (.iload_n 2, 1) := by decide +kernel
theorem dX10_home_60 : decode cX10_home 60 = .ok (.invokestatic 208, 3) := by decide +kernel
theorem dX10_home_63 : decode cX10_home 63 = .ok (.i2l, 1) := by decide +kernel
theorem dX10_home_64 : decode cX10_home 64 = .ok (.invokevirtual 211, 3) := by decide +kernel
theorem dX10_home_67 : decode cX10_home 67 = .ok (.ireturn, 1) := by decide +kernel
def fX10_home_17 (v0 : Nat) (h : gx_H) : Option (Int32 × gx_H) :=
  gx_bd (fX10_refuse v0 (-2 : Int32) h) fun x21 h20 =>
  some (x21, h20)
def fX10_home (v0 : Nat) (v1 : Int32) (v2 : Int32) (h : gx_H) : Option (Int32 × gx_H) :=
  (gx_isO h v0 8).bind fun _ =>
  gx_bd (fX10_isPlayer v0 v1 h) fun x2 h1 =>
  if x2 = 0 then
    fX10_home_17 v0 h1
  else
    gx_bd (fX10_within v2 (0 : Int32) (5 : Int32) h1) fun x4 h3 =>
    if x4 = 0 then
      fX10_home_17 v0 h3
    else
      (gx_fR h3 v0 8 4).bind fun a5 =>
      (gx_fR h3 v0 8 0).bind fun a6 =>
      (gx_fR h3 a6 1 0).bind fun a7 =>
      gx_bd (fX5_spread a5 a7 v1 v2 h3) fun u9 h8 =>
      (gx_fR h8 v0 8 4).bind fun a10 =>
      gx_bd (fX5_rowsHome a10 h8) fun x12 h11 =>
      (gx_fR h11 v0 8 0).bind fun a13 =>
      (gx_fR h11 a13 1 0).bind fun a14 =>
      (gx_fI h11 a14 0 1).bind fun x15 =>
      gx_bd (fX10_power x15 v2 h11) fun x17 h16 =>
      gx_bd (fX10_keepFraction v0 ((x12).toInt64) ((x17).toInt64) h16) fun x19 h18 =>
      some (x19, h18)
set_option maxRecDepth 100000 in
set_option maxHeartbeats 4000000 in
theorem gX10_home_17 {E : gx_Env} {d : Nat}  : ∀ (v0 : Nat) (h : gx_H), gx_G E RX10 cX10_home 3 (some .int) false (d + 14) 0 0 17 [some (.ref v0), none, none] [] h (fun x : Int32 => some (.int x)) (fX10_home_17 v0 h) := by
  intro v0 h
  unfold fX10_home_17
  refine gx_aload_n 0 dX10_home_17 rfl rfl ?_
  refine gx_bipush (-2 : Int32) dX10_home_18 (by decide) ?_
  refine gx_callV (ci := 8) (bc := 0) (bs := 0) (mc := 0) (ms := 0) (em' := (fun x : Int32 => some (.int x))) [.int (-2 : Int32)] kc_RX10_66 rfl dX10_home_20 rfl rfl (gx_w8 rfl) (fun x q => (gx_isO_of (by unfold fX10_refuse at q; exact q)).2) (fun _ _ q => okX10_refuse (d + 13) q) (fun x21 h20 => ?_)
  exact gx_iret dX10_home_23 rfl
set_option maxRecDepth 100000 in
set_option maxHeartbeats 4000000 in
theorem geX10_home {E : gx_Env} {d : Nat} (v0 : Nat) (v1 : Int32) (v2 : Int32) (h : gx_H) : gx_G E RX10 cX10_home 3 (some .int) false (d + 14) 0 0 0 [some (.ref v0), some (.int v1), some (.int v2)] [] h (fun x : Int32 => some (.int x)) (fX10_home v0 v1 v2 h) := by
  unfold fX10_home
  refine gx_bind fun _ _ => ?_
  refine gx_aload_n 0 dX10_home_0 rfl rfl ?_
  refine gx_iload_n 1 dX10_home_1 rfl rfl ?_
  refine gx_callV (ci := 8) (bc := 0) (bs := 0) (mc := 0) (ms := 0) (em' := (fun x : Int32 => some (.int x))) [.int v1] kc_RX10_134 rfl dX10_home_2 rfl rfl (gx_w8 rfl) (fun x q => (gx_isO_of (by unfold fX10_isPlayer at q; exact q)).2) (fun _ _ q => okX10_isPlayer (d + 12) q) (fun x2 h1 => ?_)
  refine gx_if_eq 17 dX10_home_5 (by decide) (fun _ => ?_) (fun _ => ?_)
  · exact gx_sub (gX10_home_17 v0 h1) (And.intro rfl True.intro)
  · refine gx_iload_n 2 dX10_home_8 rfl rfl ?_
    refine gx_iconst (0 : Int32) dX10_home_9 (by decide) ?_
    refine gx_iconst (5 : Int32) dX10_home_10 (by decide) ?_
    refine gx_callS (bc := 0) (bs := 0) (mc := 0) (ms := 0) (em' := (fun x : Int32 => some (.int x))) [.int v2, .int (0 : Int32), .int (5 : Int32)] kc_RX10_62 dX10_home_11 rfl rfl (gx_w8 rfl) (fun _ _ q => okX10_within (d + 13) q) (fun x4 h3 => ?_)
    refine gx_if_ne 24 dX10_home_14 (by decide) (fun _ => ?_) (fun _ => ?_)
    · refine gx_aload_n 0 dX10_home_24 rfl rfl ?_
      refine gx_getR kf_RX10_34 dX10_home_25 (fun a5 => ?_)
      refine gx_aload_n 0 dX10_home_28 rfl rfl ?_
      refine gx_getR kf_RX10_10 dX10_home_29 (fun a6 => ?_)
      refine gx_getR kf_RX10_70 dX10_home_32 (fun a7 => ?_)
      refine gx_iload_n 1 dX10_home_35 rfl rfl ?_
      refine gx_iload_n 2 dX10_home_36 rfl rfl ?_
      refine gx_callV (ci := 4) (bc := 0) (bs := 0) (mc := 0) (ms := 0) (em' := (fun _ : Unit => none)) [.ref a7, .int v1, .int v2] kc_RX10_201 rfl dX10_home_37 rfl rfl (gx_w8 rfl) (fun x q => (gx_isO_of (by unfold fX5_spread at q; exact q)).2) (fun _ _ q => okX5_spread d q) (fun u9 h8 => ?_)
      refine gx_aload_n 0 dX10_home_40 rfl rfl ?_
      refine gx_aload_n 0 dX10_home_41 rfl rfl ?_
      refine gx_getR kf_RX10_34 dX10_home_42 (fun a10 => ?_)
      refine gx_callV (ci := 4) (bc := 0) (bs := 0) (mc := 0) (ms := 0) (em' := (fun x : Int32 => some (.int x))) [] kc_RX10_205 rfl dX10_home_45 rfl rfl (gx_w8 rfl) (fun x q => (gx_isO_of (by unfold fX5_rowsHome at q; exact q)).2) (fun _ _ q => okX5_rowsHome (d + 12) q) (fun x12 h11 => ?_)
      refine gx_i2l dX10_home_48 ?_
      refine gx_aload_n 0 dX10_home_49 rfl rfl ?_
      refine gx_getR kf_RX10_10 dX10_home_50 (fun a13 => ?_)
      refine gx_getR kf_RX10_70 dX10_home_53 (fun a14 => ?_)
      refine gx_getI kf_RX10_86 dX10_home_56 (fun x15 => ?_)
      refine gx_iload_n 2 dX10_home_59 rfl rfl ?_
      refine gx_callS (bc := 0) (bs := 0) (mc := 0) (ms := 0) (em' := (fun x : Int32 => some (.int x))) [.int x15, .int v2] kc_RX10_208 dX10_home_60 rfl rfl (gx_w8 rfl) (fun _ _ q => okX10_power (d + 13) q) (fun x17 h16 => ?_)
      refine gx_i2l dX10_home_63 ?_
      refine gx_callV (ci := 8) (bc := 0) (bs := 0) (mc := 0) (ms := 0) (em' := (fun x : Int32 => some (.int x))) [.long ((x12).toInt64), .long ((x17).toInt64)] kc_RX10_211 rfl dX10_home_64 rfl rfl (gx_w8 rfl) (fun x q => (gx_isO_of (by unfold fX10_keepFraction at q; exact q)).2) (fun _ _ q => okX10_keepFraction (d + 12) q) (fun x19 h18 => ?_)
      exact gx_iret dX10_home_67 rfl
    · exact gx_sub (gX10_home_17 v0 h3) (And.intro rfl True.intro)
theorem okX10_home {E : gx_Env} (d : Nat) {v0 : Nat} {v1 : Int32} {v2 : Int32} {h : gx_H} {r : Int32} {h1 : gx_H} (q : fX10_home v0 v1 v2 h = some (r, h1)) : gx_M E yX10_home cX10_home 3 (some .int) (d + 14) 0 0 [.ref v0, .int v1, .int v2] h ((fun x : Int32 => some (.int x)) r) h1 := gx_meth (y := yX10_home) (cc := cX10_home) (nL := 3) (em := (fun x : Int32 => some (.int x))) (ini := false) [.ref v0, .int v1, .int v2] (by decide) (by simp [gx_sl]) (fun q => by cases q) (geX10_home v0 v1 v2 h) q
theorem dX10_mean_0 : decode cX10_mean 0 = .ok (.aload_n 0, 1) := by decide +kernel
theorem dX10_mean_1 : decode cX10_mean 1 = .ok (.iload_n 1, 1) := by decide +kernel
theorem dX10_mean_2 : decode cX10_mean 2 = .ok (.invokevirtual 134, 3) := by decide +kernel
theorem dX10_mean_5 : decode cX10_mean 5 = .ok (.ifCond .eq 12, 3) := by decide +kernel
theorem dX10_mean_8 : decode cX10_mean 8 = .ok (.iload_n 2, 1) := by decide +kernel
theorem dX10_mean_9 : decode cX10_mean 9 = .ok (.iconst 0, 1) := by decide +kernel
theorem dX10_mean_10 : decode cX10_mean 10 = .ok (.iconst 5, 1) := by decide +kernel
theorem dX10_mean_11 : decode cX10_mean 11 = .ok (.invokestatic 62, 3) := by decide +kernel
theorem dX10_mean_14 : decode cX10_mean 14 = .ok (.ifCond .ne 10, 3) := by decide +kernel
theorem dX10_mean_17 : decode cX10_mean 17 = .ok (.aload_n 0, 1) := by decide +kernel
theorem dX10_mean_18 : decode cX10_mean 18 = .ok (.bipush (-2), 2) := by decide +kernel
theorem dX10_mean_20 : decode cX10_mean 20 = .ok (.invokevirtual 66, 3) := by decide +kernel
theorem dX10_mean_23 : decode cX10_mean 23 = .ok (.ireturn, 1) := by decide +kernel
theorem dX10_mean_24 : decode cX10_mean 24 = .ok (.aload_n 0, 1) := by decide +kernel
theorem dX10_mean_25 : decode cX10_mean 25 = .ok (.getfield 34, 3) := by decide +kernel
theorem dX10_mean_28 : decode cX10_mean 28 = .ok (.aload_n 0, 1) := by decide +kernel
theorem dX10_mean_29 : decode cX10_mean 29 = .ok (.getfield 10, 3) := by decide +kernel
theorem dX10_mean_32 : decode cX10_mean 32 = .ok (.getfield 70, 3) := by decide +kernel
theorem dX10_mean_35 : decode cX10_mean 35 = .ok (.iload_n 1, 1) := by decide +kernel
theorem dX10_mean_36 : decode cX10_mean 36 = .ok (.iload_n 2, 1) := by decide +kernel
theorem dX10_mean_37 : decode cX10_mean 37 = .ok (.invokevirtual 201, 3) := by decide +kernel
theorem dX10_mean_40 : decode cX10_mean 40 = .ok (.aload_n 0, 1) := by decide +kernel
theorem dX10_mean_41 : decode cX10_mean 41 = .ok (.aload_n 0, 1) := by decide +kernel
theorem dX10_mean_42 : decode cX10_mean 42 = .ok (.getfield 34, 3) := by decide +kernel
theorem dX10_mean_45 : decode cX10_mean 45 = .ok (.invokevirtual 215, 3) := by decide +kernel
theorem dX10_mean_48 : decode cX10_mean 48 = .ok (.aload_n 0, 1) := by decide +kernel
theorem dX10_mean_49 : decode cX10_mean 49 = .ok (.getfield 10, 3) := by decide +kernel
theorem dX10_mean_52 : decode cX10_mean 52 = .ok (.getfield 70, 3) := by decide +kernel
theorem dX10_mean_55 : decode cX10_mean 55 = .ok (.getfield 86, 3) := by decide +kernel
theorem dX10_mean_58 : decode cX10_mean 58 = .ok (.iload_n 2, 1) := by decide +kernel
theorem dX10_mean_59 : decode cX10_mean 59 = .ok (.invokestatic 208, 3) := by decide +kernel
theorem dX10_mean_62 : decode cX10_mean 62 = .ok (.i2l, 1) := by decide +kernel
theorem dX10_mean_63 : decode cX10_mean 63 = .ok (.invokevirtual 211, 3) := by decide +kernel
theorem dX10_mean_66 : decode cX10_mean 66 = .ok (.ireturn, 1) := by decide +kernel
def fX10_mean_17 (v0 : Nat) (h : gx_H) : Option (Int32 × gx_H) :=
  gx_bd (fX10_refuse v0 (-2 : Int32) h) fun x21 h20 =>
  some (x21, h20)
def fX10_mean (v0 : Nat) (v1 : Int32) (v2 : Int32) (h : gx_H) : Option (Int32 × gx_H) :=
  (gx_isO h v0 8).bind fun _ =>
  gx_bd (fX10_isPlayer v0 v1 h) fun x2 h1 =>
  if x2 = 0 then
    fX10_mean_17 v0 h1
  else
    gx_bd (fX10_within v2 (0 : Int32) (5 : Int32) h1) fun x4 h3 =>
    if x4 = 0 then
      fX10_mean_17 v0 h3
    else
      (gx_fR h3 v0 8 4).bind fun a5 =>
      (gx_fR h3 v0 8 0).bind fun a6 =>
      (gx_fR h3 a6 1 0).bind fun a7 =>
      gx_bd (fX5_spread a5 a7 v1 v2 h3) fun u9 h8 =>
      (gx_fR h8 v0 8 4).bind fun a10 =>
      gx_bd (fX5_sumOfSquares a10 h8) fun y12 h11 =>
      (gx_fR h11 v0 8 0).bind fun a13 =>
      (gx_fR h11 a13 1 0).bind fun a14 =>
      (gx_fI h11 a14 0 1).bind fun x15 =>
      gx_bd (fX10_power x15 v2 h11) fun x17 h16 =>
      gx_bd (fX10_keepFraction v0 y12 ((x17).toInt64) h16) fun x19 h18 =>
      some (x19, h18)
set_option maxRecDepth 100000 in
set_option maxHeartbeats 4000000 in
theorem gX10_mean_17 {E : gx_Env} {d : Nat}  : ∀ (v0 : Nat) (h : gx_H), gx_G E RX10 cX10_mean 3 (some .int) false (d + 14) 0 0 17 [some (.ref v0), none, none] [] h (fun x : Int32 => some (.int x)) (fX10_mean_17 v0 h) := by
  intro v0 h
  unfold fX10_mean_17
  refine gx_aload_n 0 dX10_mean_17 rfl rfl ?_
  refine gx_bipush (-2 : Int32) dX10_mean_18 (by decide) ?_
  refine gx_callV (ci := 8) (bc := 0) (bs := 0) (mc := 0) (ms := 0) (em' := (fun x : Int32 => some (.int x))) [.int (-2 : Int32)] kc_RX10_66 rfl dX10_mean_20 rfl rfl (gx_w8 rfl) (fun x q => (gx_isO_of (by unfold fX10_refuse at q; exact q)).2) (fun _ _ q => okX10_refuse (d + 13) q) (fun x21 h20 => ?_)
  exact gx_iret dX10_mean_23 rfl
set_option maxRecDepth 100000 in
set_option maxHeartbeats 4000000 in
theorem geX10_mean {E : gx_Env} {d : Nat} (v0 : Nat) (v1 : Int32) (v2 : Int32) (h : gx_H) : gx_G E RX10 cX10_mean 3 (some .int) false (d + 14) 0 0 0 [some (.ref v0), some (.int v1), some (.int v2)] [] h (fun x : Int32 => some (.int x)) (fX10_mean v0 v1 v2 h) := by
  unfold fX10_mean
  refine gx_bind fun _ _ => ?_
  refine gx_aload_n 0 dX10_mean_0 rfl rfl ?_
  refine gx_iload_n 1 dX10_mean_1 rfl rfl ?_
  refine gx_callV (ci := 8) (bc := 0) (bs := 0) (mc := 0) (ms := 0) (em' := (fun x : Int32 => some (.int x))) [.int v1] kc_RX10_134 rfl dX10_mean_2 rfl rfl (gx_w8 rfl) (fun x q => (gx_isO_of (by unfold fX10_isPlayer at q; exact q)).2) (fun _ _ q => okX10_isPlayer (d + 12) q) (fun x2 h1 => ?_)
  refine gx_if_eq 17 dX10_mean_5 (by decide) (fun _ => ?_) (fun _ => ?_)
  · exact gx_sub (gX10_mean_17 v0 h1) (And.intro rfl True.intro)
  · refine gx_iload_n 2 dX10_mean_8 rfl rfl ?_
    refine gx_iconst (0 : Int32) dX10_mean_9 (by decide) ?_
    refine gx_iconst (5 : Int32) dX10_mean_10 (by decide) ?_
    refine gx_callS (bc := 0) (bs := 0) (mc := 0) (ms := 0) (em' := (fun x : Int32 => some (.int x))) [.int v2, .int (0 : Int32), .int (5 : Int32)] kc_RX10_62 dX10_mean_11 rfl rfl (gx_w8 rfl) (fun _ _ q => okX10_within (d + 13) q) (fun x4 h3 => ?_)
    refine gx_if_ne 24 dX10_mean_14 (by decide) (fun _ => ?_) (fun _ => ?_)
    · refine gx_aload_n 0 dX10_mean_24 rfl rfl ?_
      refine gx_getR kf_RX10_34 dX10_mean_25 (fun a5 => ?_)
      refine gx_aload_n 0 dX10_mean_28 rfl rfl ?_
      refine gx_getR kf_RX10_10 dX10_mean_29 (fun a6 => ?_)
      refine gx_getR kf_RX10_70 dX10_mean_32 (fun a7 => ?_)
      refine gx_iload_n 1 dX10_mean_35 rfl rfl ?_
      refine gx_iload_n 2 dX10_mean_36 rfl rfl ?_
      refine gx_callV (ci := 4) (bc := 0) (bs := 0) (mc := 0) (ms := 0) (em' := (fun _ : Unit => none)) [.ref a7, .int v1, .int v2] kc_RX10_201 rfl dX10_mean_37 rfl rfl (gx_w8 rfl) (fun x q => (gx_isO_of (by unfold fX5_spread at q; exact q)).2) (fun _ _ q => okX5_spread d q) (fun u9 h8 => ?_)
      refine gx_aload_n 0 dX10_mean_40 rfl rfl ?_
      refine gx_aload_n 0 dX10_mean_41 rfl rfl ?_
      refine gx_getR kf_RX10_34 dX10_mean_42 (fun a10 => ?_)
      refine gx_callV (ci := 4) (bc := 0) (bs := 0) (mc := 0) (ms := 0) (em' := (fun x : Int64 => some (.long x))) [] kc_RX10_215 rfl dX10_mean_45 rfl rfl (gx_w8 rfl) (fun x q => (gx_isO_of (by unfold fX5_sumOfSquares at q; exact q)).2) (fun _ _ q => okX5_sumOfSquares (d + 13) q) (fun y12 h11 => ?_)
      refine gx_aload_n 0 dX10_mean_48 rfl rfl ?_
      refine gx_getR kf_RX10_10 dX10_mean_49 (fun a13 => ?_)
      refine gx_getR kf_RX10_70 dX10_mean_52 (fun a14 => ?_)
      refine gx_getI kf_RX10_86 dX10_mean_55 (fun x15 => ?_)
      refine gx_iload_n 2 dX10_mean_58 rfl rfl ?_
      refine gx_callS (bc := 0) (bs := 0) (mc := 0) (ms := 0) (em' := (fun x : Int32 => some (.int x))) [.int x15, .int v2] kc_RX10_208 dX10_mean_59 rfl rfl (gx_w8 rfl) (fun _ _ q => okX10_power (d + 13) q) (fun x17 h16 => ?_)
      refine gx_i2l dX10_mean_62 ?_
      refine gx_callV (ci := 8) (bc := 0) (bs := 0) (mc := 0) (ms := 0) (em' := (fun x : Int32 => some (.int x))) [.long y12, .long ((x17).toInt64)] kc_RX10_211 rfl dX10_mean_63 rfl rfl (gx_w8 rfl) (fun x q => (gx_isO_of (by unfold fX10_keepFraction at q; exact q)).2) (fun _ _ q => okX10_keepFraction (d + 12) q) (fun x19 h18 => ?_)
      exact gx_iret dX10_mean_66 rfl
    · exact gx_sub (gX10_mean_17 v0 h3) (And.intro rfl True.intro)
theorem okX10_mean {E : gx_Env} (d : Nat) {v0 : Nat} {v1 : Int32} {v2 : Int32} {h : gx_H} {r : Int32} {h1 : gx_H} (q : fX10_mean v0 v1 v2 h = some (r, h1)) : gx_M E yX10_mean cX10_mean 3 (some .int) (d + 14) 0 0 [.ref v0, .int v1, .int v2] h ((fun x : Int32 => some (.int x)) r) h1 := gx_meth (y := yX10_mean) (cc := cX10_mean) (nL := 3) (em := (fun x : Int32 => some (.int x))) (ini := false) [.ref v0, .int v1, .int v2] (by decide) (by simp [gx_sl]) (fun q => by cases q) (geX10_mean v0 v1 v2 h) q
theorem dX10_areUnlikePlayers_0 : decode cX10_areUnlikePlayers 0 = .ok (.aload_n 0, 1) := by decide +kernel
theorem dX10_areUnlikePlayers_1 : decode cX10_areUnlikePlayers 1 = .ok (.iload_n 1, 1) := by decide +kernel
theorem dX10_areUnlikePlayers_2 : decode cX10_areUnlikePlayers 2 = .ok (.invokevirtual 134, 3) := by decide +kernel
theorem dX10_areUnlikePlayers_5 : decode cX10_areUnlikePlayers 5 = .ok (.ifCond .eq 20, 3) := by decide +kernel
theorem dX10_areUnlikePlayers_8 : decode cX10_areUnlikePlayers 8 = .ok (.aload_n 0, 1) := by decide +kernel
theorem dX10_areUnlikePlayers_9 : decode cX10_areUnlikePlayers 9 = .ok (.iload_n 2, 1) := by decide +kernel
theorem dX10_areUnlikePlayers_10 : decode cX10_areUnlikePlayers 10 = .ok (.invokevirtual 134, 3) := by decide +kernel
theorem dX10_areUnlikePlayers_13 : decode cX10_areUnlikePlayers 13 = .ok (.ifCond .eq 12, 3) := by decide +kernel
theorem dX10_areUnlikePlayers_16 : decode cX10_areUnlikePlayers 16 = .ok (.iload_n 1, 1) := by decide +kernel
theorem dX10_areUnlikePlayers_17 : decode cX10_areUnlikePlayers 17 = .ok (.iload_n 2, 1) := by decide +kernel
theorem dX10_areUnlikePlayers_18 : decode cX10_areUnlikePlayers 18 = .ok (.if_icmp .eq 7, 3) := by decide +kernel
theorem dX10_areUnlikePlayers_21 : decode cX10_areUnlikePlayers 21 = .ok (.iconst 1, 1) := by decide +kernel
theorem dX10_areUnlikePlayers_22 : decode cX10_areUnlikePlayers 22 = .ok (.goto 4, 3) := by decide +kernel
theorem dX10_areUnlikePlayers_25 : decode cX10_areUnlikePlayers 25 = .ok (.iconst 0, 1) := by decide +kernel
theorem dX10_areUnlikePlayers_26 : decode cX10_areUnlikePlayers 26 = .ok (.ireturn, 1) := by decide +kernel
def fX10_areUnlikePlayers_26 (s0 : Int32) (h : gx_H) : Option (Int32 × gx_H) :=
  gx_ret .boolean s0 h
def fX10_areUnlikePlayers_25 (h : gx_H) : Option (Int32 × gx_H) :=
  fX10_areUnlikePlayers_26 (0 : Int32) h
def fX10_areUnlikePlayers (v0 : Nat) (v1 : Int32) (v2 : Int32) (h : gx_H) : Option (Int32 × gx_H) :=
  (gx_isO h v0 8).bind fun _ =>
  gx_bd (fX10_isPlayer v0 v1 h) fun x2 h1 =>
  if x2 = 0 then
    fX10_areUnlikePlayers_25 h1
  else
    gx_bd (fX10_isPlayer v0 v2 h1) fun x4 h3 =>
    if x4 = 0 then
      fX10_areUnlikePlayers_25 h3
    else
      if v1 = v2 then
        fX10_areUnlikePlayers_25 h3
      else
        fX10_areUnlikePlayers_26 (1 : Int32) h3
set_option maxRecDepth 100000 in
set_option maxHeartbeats 4000000 in
theorem gX10_areUnlikePlayers_26 {E : gx_Env} {d : Nat}  : ∀ (s0 : Int32) (h : gx_H), gx_G E RX10 cX10_areUnlikePlayers 3 (some .boolean) false (d + 2) 0 0 26 [none, none, none] [.int s0] h (fun x : Int32 => some (.int x)) (fX10_areUnlikePlayers_26 s0 h) := by
  intro s0 h
  unfold fX10_areUnlikePlayers_26
  exact gx_zret dX10_areUnlikePlayers_26 rfl
set_option maxRecDepth 100000 in
set_option maxHeartbeats 4000000 in
theorem gX10_areUnlikePlayers_25 {E : gx_Env} {d : Nat}  : ∀  (h : gx_H), gx_G E RX10 cX10_areUnlikePlayers 3 (some .boolean) false (d + 2) 0 0 25 [none, none, none] [] h (fun x : Int32 => some (.int x)) (fX10_areUnlikePlayers_25 h) := by
  intro  h
  unfold fX10_areUnlikePlayers_25
  refine gx_iconst (0 : Int32) dX10_areUnlikePlayers_25 (by decide) ?_
  exact gx_sub (gX10_areUnlikePlayers_26 (0 : Int32) h) True.intro
set_option maxRecDepth 100000 in
set_option maxHeartbeats 4000000 in
theorem geX10_areUnlikePlayers {E : gx_Env} {d : Nat} (v0 : Nat) (v1 : Int32) (v2 : Int32) (h : gx_H) : gx_G E RX10 cX10_areUnlikePlayers 3 (some .boolean) false (d + 2) 0 0 0 [some (.ref v0), some (.int v1), some (.int v2)] [] h (fun x : Int32 => some (.int x)) (fX10_areUnlikePlayers v0 v1 v2 h) := by
  unfold fX10_areUnlikePlayers
  refine gx_bind fun _ _ => ?_
  refine gx_aload_n 0 dX10_areUnlikePlayers_0 rfl rfl ?_
  refine gx_iload_n 1 dX10_areUnlikePlayers_1 rfl rfl ?_
  refine gx_callV (ci := 8) (bc := 0) (bs := 0) (mc := 0) (ms := 0) (em' := (fun x : Int32 => some (.int x))) [.int v1] kc_RX10_134 rfl dX10_areUnlikePlayers_2 rfl rfl (gx_w8 rfl) (fun x q => (gx_isO_of (by unfold fX10_isPlayer at q; exact q)).2) (fun _ _ q => okX10_isPlayer d q) (fun x2 h1 => ?_)
  refine gx_if_eq 25 dX10_areUnlikePlayers_5 (by decide) (fun _ => ?_) (fun _ => ?_)
  · exact gx_sub (gX10_areUnlikePlayers_25 h1) True.intro
  · refine gx_aload_n 0 dX10_areUnlikePlayers_8 rfl rfl ?_
    refine gx_iload_n 2 dX10_areUnlikePlayers_9 rfl rfl ?_
    refine gx_callV (ci := 8) (bc := 0) (bs := 0) (mc := 0) (ms := 0) (em' := (fun x : Int32 => some (.int x))) [.int v2] kc_RX10_134 rfl dX10_areUnlikePlayers_10 rfl rfl (gx_w8 rfl) (fun x q => (gx_isO_of (by unfold fX10_isPlayer at q; exact q)).2) (fun _ _ q => okX10_isPlayer d q) (fun x4 h3 => ?_)
    refine gx_if_eq 25 dX10_areUnlikePlayers_13 (by decide) (fun _ => ?_) (fun _ => ?_)
    · exact gx_sub (gX10_areUnlikePlayers_25 h3) True.intro
    · refine gx_iload_n 1 dX10_areUnlikePlayers_16 rfl rfl ?_
      refine gx_iload_n 2 dX10_areUnlikePlayers_17 rfl rfl ?_
      refine gx_icmp_eq 25 dX10_areUnlikePlayers_18 (by decide) (fun _ => ?_) (fun _ => ?_)
      · exact gx_sub (gX10_areUnlikePlayers_25 h3) True.intro
      · refine gx_iconst (1 : Int32) dX10_areUnlikePlayers_21 (by decide) ?_
        refine gx_goto 26 dX10_areUnlikePlayers_22 (by decide) ?_
        exact gx_sub (gX10_areUnlikePlayers_26 (1 : Int32) h3) True.intro
theorem okX10_areUnlikePlayers {E : gx_Env} (d : Nat) {v0 : Nat} {v1 : Int32} {v2 : Int32} {h : gx_H} {r : Int32} {h1 : gx_H} (q : fX10_areUnlikePlayers v0 v1 v2 h = some (r, h1)) : gx_M E yX10_areUnlikePlayers cX10_areUnlikePlayers 3 (some .boolean) (d + 2) 0 0 [.ref v0, .int v1, .int v2] h ((fun x : Int32 => some (.int x)) r) h1 := gx_meth (y := yX10_areUnlikePlayers) (cc := cX10_areUnlikePlayers) (nL := 3) (em := (fun x : Int32 => some (.int x))) (ini := false) [.ref v0, .int v1, .int v2] (by decide) (by simp [gx_sl]) (fun q => by cases q) (geX10_areUnlikePlayers v0 v1 v2 h) q
