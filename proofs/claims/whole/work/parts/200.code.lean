theorem dX0_init_0 : decode cX0_init 0 = .ok (.aload_n 0, 1) := by decide +kernel
theorem dX0_init_1 : decode cX0_init 1 = .ok (.invokespecial 3, 3) := by decide +kernel
theorem dX0_init_4 : decode cX0_init 4 = .ok (.aload_n 0, 1) := by decide +kernel
theorem dX0_init_5 : decode cX0_init 5 = .ok (.bipush 20, 2) := by decide +kernel
theorem dX0_init_7 : decode cX0_init 7 = .ok (.putfield 9, 3) := by decide +kernel
theorem dX0_init_10 : decode cX0_init 10 = .ok (.aload_n 0, 1) := by decide +kernel
theorem dX0_init_11 : decode cX0_init 11 = .ok (.bipush 6, 2) := by decide +kernel
theorem dX0_init_13 : decode cX0_init 13 = .ok (.putfield 15, 3) := by decide +kernel
theorem dX0_init_16 : decode cX0_init 16 = .ok (.aload_n 0, 1) := by decide +kernel
theorem dX0_init_17 : decode cX0_init 17 = .ok (.iconst 0, 1) := by decide +kernel
theorem dX0_init_18 : decode cX0_init 18 = .ok (.putfield 18, 3) := by decide +kernel
theorem dX0_init_21 : decode cX0_init 21 = .ok (.aload_n 0, 1) := by decide +kernel
theorem dX0_init_22 : decode cX0_init 22 = .ok (.iconst 0, 1) := by decide +kernel
theorem dX0_init_23 : decode cX0_init 23 = .ok (.putfield 21, 3) := by decide +kernel
theorem dX0_init_26 : decode cX0_init 26 = .ok (.aload_n 0, 1) := by decide +kernel
theorem dX0_init_27 : decode cX0_init 27 = .ok (.bipush 6, 2) := by decide +kernel
theorem dX0_init_29 : decode cX0_init 29 = .ok (.newarray .int, 2) := by decide +kernel
theorem dX0_init_31 : decode cX0_init 31 = .ok (.putfield 24, 3) := by decide +kernel
theorem dX0_init_34 : decode cX0_init 34 = .ok (.aload_n 0, 1) := by decide +kernel
theorem dX0_init_35 : decode cX0_init 35 = .ok (.bipush 6, 2) := by decide +kernel
theorem dX0_init_37 : decode cX0_init 37 = .ok (.newarray .int, 2) := by decide +kernel
theorem dX0_init_39 : decode cX0_init 39 = .ok (.putfield 28, 3) := by decide +kernel
theorem dX0_init_42 : decode cX0_init 42 = .ok (.aload_n 0, 1) := by decide +kernel
theorem dX0_init_43 : decode cX0_init 43 = .ok (.bipush 6, 2) := by decide +kernel
theorem dX0_init_45 : decode cX0_init 45 = .ok (.newarray .int, 2) := by decide +kernel
theorem dX0_init_47 : decode cX0_init 47 = .ok (.putfield 31, 3) := by decide +kernel
theorem dX0_init_50 : decode cX0_init 50 = .ok (.aload_n 0, 1) := by decide +kernel
theorem dX0_init_51 : decode cX0_init 51 = .ok (.bipush 6, 2) := by decide +kernel
theorem dX0_init_53 : decode cX0_init 53 = .ok (.newarray .int, 2) := by decide +kernel
theorem dX0_init_55 : decode cX0_init 55 = .ok (.putfield 34, 3) := by decide +kernel
theorem dX0_init_58 : decode cX0_init 58 = .ok (.aload_n 0, 1) := by decide +kernel
theorem dX0_init_59 : decode cX0_init 59 = .ok (.iconst 4, 1) := by decide +kernel
theorem dX0_init_60 : decode cX0_init 60 = .ok (.newarray .int, 2) := by decide +kernel
theorem dX0_init_62 : decode cX0_init 62 = .ok (.putfield 37, 3) := by decide +kernel
theorem dX0_init_65 : decode cX0_init 65 = .ok (.aload_n 0, 1) := by decide +kernel
theorem dX0_init_66 : decode cX0_init 66 = .ok (.iconst 4, 1) := by decide +kernel
theorem dX0_init_67 : decode cX0_init 67 = .ok (.newarray .int, 2) := by decide +kernel
theorem dX0_init_69 : decode cX0_init 69 = .ok (.putfield 40, 3) := by decide +kernel
theorem dX0_init_72 : decode cX0_init 72 = .ok (.aload_n 0, 1) := by decide +kernel
theorem dX0_init_73 : decode cX0_init 73 = .ok (.iconst 4, 1) := by decide +kernel
theorem dX0_init_74 : decode cX0_init 74 = .ok (.newarray .int, 2) := by decide +kernel
theorem dX0_init_76 : decode cX0_init 76 = .ok (.putfield 43, 3) := by decide +kernel
theorem dX0_init_79 : decode cX0_init 79 = .ok (.return_, 1) := by decide +kernel
def fX0_init (v0 : Nat) (h : gx_H) : Option (Unit × gx_H) :=
  (gx_pF h v0 0 0 (.int (20 : Int32))).bind fun h1 =>
  (gx_pF h1 v0 0 1 (.int (6 : Int32))).bind fun h2 =>
  (gx_pF h2 v0 0 2 (.int (0 : Int32))).bind fun h3 =>
  (gx_pF h3 v0 0 3 (.int (0 : Int32))).bind fun h4 =>
  gx_let (gx_new (.inl (0, 6, .inl (fun _ => 0))) h4) fun h5 =>
  (gx_pF h5 v0 0 4 (.ref h4.1)).bind fun h6 =>
  gx_let (gx_new (.inl (0, 6, .inl (fun _ => 0))) h6) fun h7 =>
  (gx_pF h7 v0 0 5 (.ref h6.1)).bind fun h8 =>
  gx_let (gx_new (.inl (0, 6, .inl (fun _ => 0))) h8) fun h9 =>
  (gx_pF h9 v0 0 6 (.ref h8.1)).bind fun h10 =>
  gx_let (gx_new (.inl (0, 6, .inl (fun _ => 0))) h10) fun h11 =>
  (gx_pF h11 v0 0 7 (.ref h10.1)).bind fun h12 =>
  gx_let (gx_new (.inl (0, 4, .inl (fun _ => 0))) h12) fun h13 =>
  (gx_pF h13 v0 0 8 (.ref h12.1)).bind fun h14 =>
  gx_let (gx_new (.inl (0, 4, .inl (fun _ => 0))) h14) fun h15 =>
  (gx_pF h15 v0 0 9 (.ref h14.1)).bind fun h16 =>
  gx_let (gx_new (.inl (0, 4, .inl (fun _ => 0))) h16) fun h17 =>
  (gx_pF h17 v0 0 10 (.ref h16.1)).bind fun h18 =>
  some ((), h18)
set_option maxRecDepth 100000 in
set_option maxHeartbeats 4000000 in
theorem geX0_init {E : gx_Env} {d : Nat} (v0 : Nat) (h : gx_H) : gx_G E RX0 cX0_init 1 none true (d + 1) 7 36 0 [some (.ref v0)] [] h (fun _ : Unit => none) (fX0_init v0 h) := by
  unfold fX0_init
  refine gx_aload_n 0 dX0_init_0 rfl rfl ?_
  refine gx_obj kk_RX0_3 ko_i ko_c dX0_init_1 (by decide) ?_
  refine gx_aload_n 0 dX0_init_4 rfl rfl ?_
  refine gx_bipush (20 : Int32) dX0_init_5 (by decide) ?_
  refine gx_putI kp_RX0_9 (fun _ => rfl) dX0_init_7 (fun h1 => ?_)
  refine gx_aload_n 0 dX0_init_10 rfl rfl ?_
  refine gx_bipush (6 : Int32) dX0_init_11 (by decide) ?_
  refine gx_putI kp_RX0_15 (fun _ => rfl) dX0_init_13 (fun h2 => ?_)
  refine gx_aload_n 0 dX0_init_16 rfl rfl ?_
  refine gx_iconst (0 : Int32) dX0_init_17 (by decide) ?_
  refine gx_putI kp_RX0_18 (fun _ => rfl) dX0_init_18 (fun h3 => ?_)
  refine gx_aload_n 0 dX0_init_21 rfl rfl ?_
  refine gx_iconst (0 : Int32) dX0_init_22 (by decide) ?_
  refine gx_putI kp_RX0_21 (fun _ => rfl) dX0_init_23 (fun h4 => ?_)
  refine gx_aload_n 0 dX0_init_26 rfl rfl ?_
  refine gx_bipush (6 : Int32) dX0_init_27 (by decide) ?_
  refine gx_newA0 (bc := 6) (bs := 30) 6 ka_int dX0_init_29 (by decide) (by decide) (by decide) ?_
  refine gx_letG ?_
  generalize (gx_new (.inl (0, 6, .inl (fun _ => 0))) h4) = h5
  refine gx_putA kp_RX0_24 (fun _ => rfl) dX0_init_31 (fun h6 => ?_)
  refine gx_aload_n 0 dX0_init_34 rfl rfl ?_
  refine gx_bipush (6 : Int32) dX0_init_35 (by decide) ?_
  refine gx_newA0 (bc := 5) (bs := 24) 6 ka_int dX0_init_37 (by decide) (by decide) (by decide) ?_
  refine gx_letG ?_
  generalize (gx_new (.inl (0, 6, .inl (fun _ => 0))) h6) = h7
  refine gx_putA kp_RX0_28 (fun _ => rfl) dX0_init_39 (fun h8 => ?_)
  refine gx_aload_n 0 dX0_init_42 rfl rfl ?_
  refine gx_bipush (6 : Int32) dX0_init_43 (by decide) ?_
  refine gx_newA0 (bc := 4) (bs := 18) 6 ka_int dX0_init_45 (by decide) (by decide) (by decide) ?_
  refine gx_letG ?_
  generalize (gx_new (.inl (0, 6, .inl (fun _ => 0))) h8) = h9
  refine gx_putA kp_RX0_31 (fun _ => rfl) dX0_init_47 (fun h10 => ?_)
  refine gx_aload_n 0 dX0_init_50 rfl rfl ?_
  refine gx_bipush (6 : Int32) dX0_init_51 (by decide) ?_
  refine gx_newA0 (bc := 3) (bs := 12) 6 ka_int dX0_init_53 (by decide) (by decide) (by decide) ?_
  refine gx_letG ?_
  generalize (gx_new (.inl (0, 6, .inl (fun _ => 0))) h10) = h11
  refine gx_putA kp_RX0_34 (fun _ => rfl) dX0_init_55 (fun h12 => ?_)
  refine gx_aload_n 0 dX0_init_58 rfl rfl ?_
  refine gx_iconst (4 : Int32) dX0_init_59 (by decide) ?_
  refine gx_newA0 (bc := 2) (bs := 8) 4 ka_int dX0_init_60 (by decide) (by decide) (by decide) ?_
  refine gx_letG ?_
  generalize (gx_new (.inl (0, 4, .inl (fun _ => 0))) h12) = h13
  refine gx_putA kp_RX0_37 (fun _ => rfl) dX0_init_62 (fun h14 => ?_)
  refine gx_aload_n 0 dX0_init_65 rfl rfl ?_
  refine gx_iconst (4 : Int32) dX0_init_66 (by decide) ?_
  refine gx_newA0 (bc := 1) (bs := 4) 4 ka_int dX0_init_67 (by decide) (by decide) (by decide) ?_
  refine gx_letG ?_
  generalize (gx_new (.inl (0, 4, .inl (fun _ => 0))) h14) = h15
  refine gx_putA kp_RX0_40 (fun _ => rfl) dX0_init_69 (fun h16 => ?_)
  refine gx_aload_n 0 dX0_init_72 rfl rfl ?_
  refine gx_iconst (4 : Int32) dX0_init_73 (by decide) ?_
  refine gx_newA0 (bc := 0) (bs := 0) 4 ka_int dX0_init_74 (by decide) (by decide) (by decide) ?_
  refine gx_letG ?_
  generalize (gx_new (.inl (0, 4, .inl (fun _ => 0))) h16) = h17
  refine gx_putA kp_RX0_43 (fun _ => rfl) dX0_init_76 (fun h18 => ?_)
  exact gx_vret dX0_init_79 rfl
theorem okX0_init {E : gx_Env} (d : Nat) {v0 : Nat} {h : gx_H} {r : Unit} {h1 : gx_H} (q : fX0_init v0 h = some (r, h1)) : gx_M E yX0_init cX0_init 1 none (d + 1) 7 36 [.ref v0] h ((fun _ : Unit => none) r) h1 := gx_meth (y := yX0_init) (cc := cX0_init) (nL := 1) (em := (fun _ : Unit => none)) (ini := true) [.ref v0] (by decide) (by simp [gx_sl]) (fun _ => rfl) (geX0_init v0 h) q
theorem dX0_start_0 : decode cX0_start 0 = .ok (.aload_n 0, 1) := by decide +kernel
theorem dX0_start_1 : decode cX0_start 1 = .ok (.iload_n 1, 1) := by decide +kernel
theorem dX0_start_2 : decode cX0_start 2 = .ok (.putfield 9, 3) := by decide +kernel
theorem dX0_start_5 : decode cX0_start 5 = .ok (.aload_n 0, 1) := by decide +kernel
theorem dX0_start_6 : decode cX0_start 6 = .ok (.iload_n 2, 1) := by decide +kernel
theorem dX0_start_7 : decode cX0_start 7 = .ok (.putfield 15, 3) := by decide +kernel
theorem dX0_start_10 : decode cX0_start 10 = .ok (.aload_n 0, 1) := by decide +kernel
theorem dX0_start_11 : decode cX0_start 11 = .ok (.iconst 0, 1) := by decide +kernel
theorem dX0_start_12 : decode cX0_start 12 = .ok (.putfield 18, 3) := by decide +kernel
theorem dX0_start_15 : decode cX0_start 15 = .ok (.aload_n 0, 1) := by decide +kernel
theorem dX0_start_16 : decode cX0_start 16 = .ok (.iconst 0, 1) := by decide +kernel
theorem dX0_start_17 : decode cX0_start 17 = .ok (.putfield 21, 3) := by decide +kernel
theorem dX0_start_20 : decode cX0_start 20 = .ok (.return_, 1) := by decide +kernel
def fX0_start (v0 : Nat) (v1 : Int32) (v2 : Int32) (h : gx_H) : Option (Unit × gx_H) :=
  (gx_isO h v0 0).bind fun _ =>
  (gx_pF h v0 0 0 (.int v1)).bind fun h1 =>
  (gx_pF h1 v0 0 1 (.int v2)).bind fun h2 =>
  (gx_pF h2 v0 0 2 (.int (0 : Int32))).bind fun h3 =>
  (gx_pF h3 v0 0 3 (.int (0 : Int32))).bind fun h4 =>
  some ((), h4)
set_option maxRecDepth 100000 in
set_option maxHeartbeats 4000000 in
theorem geX0_start {E : gx_Env} {d : Nat} (v0 : Nat) (v1 : Int32) (v2 : Int32) (h : gx_H) : gx_G E RX0 cX0_start 3 none false d 0 0 0 [some (.ref v0), some (.int v1), some (.int v2)] [] h (fun _ : Unit => none) (fX0_start v0 v1 v2 h) := by
  unfold fX0_start
  refine gx_bind fun _ _ => ?_
  refine gx_aload_n 0 dX0_start_0 rfl rfl ?_
  refine gx_iload_n 1 dX0_start_1 rfl rfl ?_
  refine gx_putI kp_RX0_9 (fun q => by cases q) dX0_start_2 (fun h1 => ?_)
  refine gx_aload_n 0 dX0_start_5 rfl rfl ?_
  refine gx_iload_n 2 dX0_start_6 rfl rfl ?_
  refine gx_putI kp_RX0_15 (fun q => by cases q) dX0_start_7 (fun h2 => ?_)
  refine gx_aload_n 0 dX0_start_10 rfl rfl ?_
  refine gx_iconst (0 : Int32) dX0_start_11 (by decide) ?_
  refine gx_putI kp_RX0_18 (fun q => by cases q) dX0_start_12 (fun h3 => ?_)
  refine gx_aload_n 0 dX0_start_15 rfl rfl ?_
  refine gx_iconst (0 : Int32) dX0_start_16 (by decide) ?_
  refine gx_putI kp_RX0_21 (fun q => by cases q) dX0_start_17 (fun h4 => ?_)
  exact gx_vret dX0_start_20 rfl
theorem okX0_start {E : gx_Env} (d : Nat) {v0 : Nat} {v1 : Int32} {v2 : Int32} {h : gx_H} {r : Unit} {h1 : gx_H} (q : fX0_start v0 v1 v2 h = some (r, h1)) : gx_M E yX0_start cX0_start 3 none d 0 0 [.ref v0, .int v1, .int v2] h ((fun _ : Unit => none) r) h1 := gx_meth (y := yX0_start) (cc := cX0_start) (nL := 3) (em := (fun _ : Unit => none)) (ini := false) [.ref v0, .int v1, .int v2] (by decide) (by simp [gx_sl]) (fun q => by cases q) (geX0_start v0 v1 v2 h) q
theorem dX0_copy_0 : decode cX0_copy 0 = .ok (.aload_n 0, 1) := by decide +kernel
theorem dX0_copy_1 : decode cX0_copy 1 = .ok (.aload_n 1, 1) := by decide +kernel
theorem dX0_copy_2 : decode cX0_copy 2 = .ok (.getfield 9, 3) := by decide +kernel
theorem dX0_copy_5 : decode cX0_copy 5 = .ok (.putfield 9, 3) := by decide +kernel
theorem dX0_copy_8 : decode cX0_copy 8 = .ok (.aload_n 0, 1) := by decide +kernel
theorem dX0_copy_9 : decode cX0_copy 9 = .ok (.aload_n 1, 1) := by decide +kernel
theorem dX0_copy_10 : decode cX0_copy 10 = .ok (.getfield 15, 3) := by decide +kernel
theorem dX0_copy_13 : decode cX0_copy 13 = .ok (.putfield 15, 3) := by decide +kernel
theorem dX0_copy_16 : decode cX0_copy 16 = .ok (.aload_n 0, 1) := by decide +kernel
theorem dX0_copy_17 : decode cX0_copy 17 = .ok (.aload_n 1, 1) := by decide +kernel
theorem dX0_copy_18 : decode cX0_copy 18 = .ok (.getfield 18, 3) := by decide +kernel
theorem dX0_copy_21 : decode cX0_copy 21 = .ok (.putfield 18, 3) := by decide +kernel
theorem dX0_copy_24 : decode cX0_copy 24 = .ok (.aload_n 0, 1) := by decide +kernel
theorem dX0_copy_25 : decode cX0_copy 25 = .ok (.aload_n 1, 1) := by decide +kernel
theorem dX0_copy_26 : decode cX0_copy 26 = .ok (.getfield 21, 3) := by decide +kernel
theorem dX0_copy_29 : decode cX0_copy 29 = .ok (.putfield 21, 3) := by decide +kernel
theorem dX0_copy_32 : decode cX0_copy 32 = .ok (.iconst 0, 1) := by decide +kernel
theorem dX0_copy_33 : decode cX0_copy 33 = .ok (.istore_n 2, 1) := by decide +kernel
theorem dX0_copy_34 : decode cX0_copy 34 = .ok (.iload_n 2, 1) := by decide +kernel
theorem dX0_copy_35 : decode cX0_copy 35 = .ok (.bipush 6, 2) := by decide +kernel
theorem dX0_copy_37 : decode cX0_copy 37 = .ok (.if_icmp .ge 57, 3) := by decide +kernel
theorem dX0_copy_40 : decode cX0_copy 40 = .ok (.aload_n 0, 1) := by decide +kernel
theorem dX0_copy_41 : decode cX0_copy 41 = .ok (.getfield 24, 3) := by decide +kernel
theorem dX0_copy_44 : decode cX0_copy 44 = .ok (.iload_n 2, 1) := by decide +kernel
theorem dX0_copy_45 : decode cX0_copy 45 = .ok (.aload_n 1, 1) := by decide +kernel
theorem dX0_copy_46 : decode cX0_copy 46 = .ok (.getfield 24, 3) := by decide +kernel
theorem dX0_copy_49 : decode cX0_copy 49 = .ok (.iload_n 2, 1) := by decide +kernel
theorem dX0_copy_50 : decode cX0_copy 50 = .ok (.iaload, 1) := by decide +kernel
theorem dX0_copy_51 : decode cX0_copy 51 = .ok (.iastore, 1) := by decide +kernel
theorem dX0_copy_52 : decode cX0_copy 52 = .ok (.aload_n 0, 1) := by decide +kernel
theorem dX0_copy_53 : decode cX0_copy 53 = .ok (.getfield 28, 3) := by decide +kernel
theorem dX0_copy_56 : decode cX0_copy 56 = .ok (.iload_n 2, 1) := by decide +kernel
theorem dX0_copy_57 : decode cX0_copy 57 = .ok (.aload_n 1, 1) := by decide +kernel
theorem dX0_copy_58 : decode cX0_copy 58 = .ok (.getfield 28, 3) := by decide +kernel
theorem dX0_copy_61 : decode cX0_copy 61 = .ok (.iload_n 2, 1) := by decide +kernel
theorem dX0_copy_62 : decode cX0_copy 62 = .ok (.iaload, 1) := by decide +kernel
theorem dX0_copy_63 : decode cX0_copy 63 = .ok (.iastore, 1) := by decide +kernel
theorem dX0_copy_64 : decode cX0_copy 64 = .ok (.aload_n 0, 1) := by decide +kernel
theorem dX0_copy_65 : decode cX0_copy 65 = .ok (.getfield 31, 3) := by decide +kernel
theorem dX0_copy_68 : decode cX0_copy 68 = .ok (.iload_n 2, 1) := by decide +kernel
theorem dX0_copy_69 : decode cX0_copy 69 = .ok (.aload_n 1, 1) := by decide +kernel
theorem dX0_copy_70 : decode cX0_copy 70 = .ok (.getfield 31, 3) := by decide +kernel
theorem dX0_copy_73 : decode cX0_copy 73 = .ok (.iload_n 2, 1) := by decide +kernel
theorem dX0_copy_74 : decode cX0_copy 74 = .ok (.iaload, 1) := by decide +kernel
theorem dX0_copy_75 : decode cX0_copy 75 = .ok (.iastore, 1) := by decide +kernel
theorem dX0_copy_76 : decode cX0_copy 76 = .ok (.aload_n 0, 1) := by decide +kernel
theorem dX0_copy_77 : decode cX0_copy 77 = .ok (.getfield 34, 3) := by decide +kernel
theorem dX0_copy_80 : decode cX0_copy 80 = .ok (.iload_n 2, 1) := by decide +kernel
theorem dX0_copy_81 : decode cX0_copy 81 = .ok (.aload_n 1, 1) := by decide +kernel
theorem dX0_copy_82 : decode cX0_copy 82 = .ok (.getfield 34, 3) := by decide +kernel
theorem dX0_copy_85 : decode cX0_copy 85 = .ok (.iload_n 2, 1) := by decide +kernel
theorem dX0_copy_86 : decode cX0_copy 86 = .ok (.iaload, 1) := by decide +kernel
theorem dX0_copy_87 : decode cX0_copy 87 = .ok (.iastore, 1) := by decide +kernel
theorem dX0_copy_88 : decode cX0_copy 88 = .ok (.iinc 2 1, 3) := by decide +kernel
theorem dX0_copy_91 : decode cX0_copy 91 = .ok (.goto (-57), 3) := by decide +kernel
theorem dX0_copy_94 : decode cX0_copy 94 = .ok (.iconst 0, 1) := by decide +kernel
theorem dX0_copy_95 : decode cX0_copy 95 = .ok (.istore_n 2, 1) := by decide +kernel
theorem dX0_copy_96 : decode cX0_copy 96 = .ok (.iload_n 2, 1) := by decide +kernel
theorem dX0_copy_97 : decode cX0_copy 97 = .ok (.iconst 4, 1) := by decide +kernel
theorem dX0_copy_98 : decode cX0_copy 98 = .ok (.if_icmp .ge 45, 3) := by decide +kernel
theorem dX0_copy_101 : decode cX0_copy 101 = .ok (.aload_n 0, 1) := by decide +kernel
theorem dX0_copy_102 : decode cX0_copy 102 = .ok (.getfield 37, 3) := by decide +kernel
theorem dX0_copy_105 : decode cX0_copy 105 = .ok (.iload_n 2, 1) := by decide +kernel
theorem dX0_copy_106 : decode cX0_copy 106 = .ok (.aload_n 1, 1) := by decide +kernel
theorem dX0_copy_107 : decode cX0_copy 107 = .ok (.getfield 37, 3) := by decide +kernel
theorem dX0_copy_110 : decode cX0_copy 110 = .ok (.iload_n 2, 1) := by decide +kernel
theorem dX0_copy_111 : decode cX0_copy 111 = .ok (.iaload, 1) := by decide +kernel
theorem dX0_copy_112 : decode cX0_copy 112 = .ok (.iastore, 1) := by decide +kernel
theorem dX0_copy_113 : decode cX0_copy 113 = .ok (.aload_n 0, 1) := by decide +kernel
theorem dX0_copy_114 : decode cX0_copy 114 = .ok (.getfield 40, 3) := by decide +kernel
theorem dX0_copy_117 : decode cX0_copy 117 = .ok (.iload_n 2, 1) := by decide +kernel
theorem dX0_copy_118 : decode cX0_copy 118 = .ok (.aload_n 1, 1) := by decide +kernel
theorem dX0_copy_119 : decode cX0_copy 119 = .ok (.getfield 40, 3) := by decide +kernel
theorem dX0_copy_122 : decode cX0_copy 122 = .ok (.iload_n 2, 1) := by decide +kernel
theorem dX0_copy_123 : decode cX0_copy 123 = .ok (.iaload, 1) := by decide +kernel
theorem dX0_copy_124 : decode cX0_copy 124 = .ok (.iastore, 1) := by decide +kernel
theorem dX0_copy_125 : decode cX0_copy 125 = .ok (.aload_n 0, 1) := by decide +kernel
theorem dX0_copy_126 : decode cX0_copy 126 = .ok (.getfield 43, 3) := by decide +kernel
theorem dX0_copy_129 : decode cX0_copy 129 = .ok (.iload_n 2, 1) := by decide +kernel
theorem dX0_copy_130 : decode cX0_copy 130 = .ok (.aload_n 1, 1) := by decide +kernel
theorem dX0_copy_131 : decode cX0_copy 131 = .ok (.getfield 43, 3) := by decide +kernel
theorem dX0_copy_134 : decode cX0_copy 134 = .ok (.iload_n 2, 1) := by decide +kernel
theorem dX0_copy_135 : decode cX0_copy 135 = .ok (.iaload, 1) := by decide +kernel
theorem dX0_copy_136 : decode cX0_copy 136 = .ok (.iastore, 1) := by decide +kernel
theorem dX0_copy_137 : decode cX0_copy 137 = .ok (.iinc 2 1, 3) := by decide +kernel
theorem dX0_copy_140 : decode cX0_copy 140 = .ok (.goto (-44), 3) := by decide +kernel
theorem dX0_copy_143 : decode cX0_copy 143 = .ok (.return_, 1) := by decide +kernel
def bX0_copy_96 (k96 : Nat → Nat → Int32 → gx_H → Option (Unit × gx_H)) (v0 : Nat) (v1 : Nat) (v2 : Int32) (h : gx_H) : Option (Unit × gx_H) :=
  if (4 : Int32) ≤ v2 then
    some ((), h)
  else
    (gx_fR h v0 0 8).bind fun a25 =>
    (gx_fR h v1 0 8).bind fun a26 =>
    (gx_aI 0 h a26 v2).bind fun x27 =>
    (gx_sI 0 h a25 v2 x27).bind fun h28 =>
    (gx_fR h28 v0 0 9).bind fun a29 =>
    (gx_fR h28 v1 0 9).bind fun a30 =>
    (gx_aI 0 h28 a30 v2).bind fun x31 =>
    (gx_sI 0 h28 a29 v2 x31).bind fun h32 =>
    (gx_fR h32 v0 0 10).bind fun a33 =>
    (gx_fR h32 v1 0 10).bind fun a34 =>
    (gx_aI 0 h32 a34 v2).bind fun x35 =>
    (gx_sI 0 h32 a33 v2 x35).bind fun h36 =>
    k96 v0 v1 (v2 + (1 : Int32)) h36
def fX0_copy_96 : Nat → Nat → Nat → Int32 → gx_H → Option (Unit × gx_H)
  | 0 => fun _ _ _ _ => none
  | n + 1 => bX0_copy_96 (fX0_copy_96 n)
def bX0_copy_34 (k34 : Nat → Nat → Int32 → gx_H → Option (Unit × gx_H)) (v0 : Nat) (v1 : Nat) (v2 : Int32) (h : gx_H) : Option (Unit × gx_H) :=
  if (6 : Int32) ≤ v2 then
    fX0_copy_96 gx_N v0 v1 (0 : Int32) h
  else
    (gx_fR h v0 0 4).bind fun a9 =>
    (gx_fR h v1 0 4).bind fun a10 =>
    (gx_aI 0 h a10 v2).bind fun x11 =>
    (gx_sI 0 h a9 v2 x11).bind fun h12 =>
    (gx_fR h12 v0 0 5).bind fun a13 =>
    (gx_fR h12 v1 0 5).bind fun a14 =>
    (gx_aI 0 h12 a14 v2).bind fun x15 =>
    (gx_sI 0 h12 a13 v2 x15).bind fun h16 =>
    (gx_fR h16 v0 0 6).bind fun a17 =>
    (gx_fR h16 v1 0 6).bind fun a18 =>
    (gx_aI 0 h16 a18 v2).bind fun x19 =>
    (gx_sI 0 h16 a17 v2 x19).bind fun h20 =>
    (gx_fR h20 v0 0 7).bind fun a21 =>
    (gx_fR h20 v1 0 7).bind fun a22 =>
    (gx_aI 0 h20 a22 v2).bind fun x23 =>
    (gx_sI 0 h20 a21 v2 x23).bind fun h24 =>
    k34 v0 v1 (v2 + (1 : Int32)) h24
def fX0_copy_34 : Nat → Nat → Nat → Int32 → gx_H → Option (Unit × gx_H)
  | 0 => fun _ _ _ _ => none
  | n + 1 => bX0_copy_34 (fX0_copy_34 n)
def fX0_copy (v0 : Nat) (v1 : Nat) (h : gx_H) : Option (Unit × gx_H) :=
  (gx_isO h v0 0).bind fun _ =>
  (gx_fI h v1 0 0).bind fun x1 =>
  (gx_pF h v0 0 0 (.int x1)).bind fun h2 =>
  (gx_fI h2 v1 0 1).bind fun x3 =>
  (gx_pF h2 v0 0 1 (.int x3)).bind fun h4 =>
  (gx_fI h4 v1 0 2).bind fun x5 =>
  (gx_pF h4 v0 0 2 (.int x5)).bind fun h6 =>
  (gx_fI h6 v1 0 3).bind fun x7 =>
  (gx_pF h6 v0 0 3 (.int x7)).bind fun h8 =>
  fX0_copy_34 gx_N v0 v1 (0 : Int32) h8
set_option maxRecDepth 100000 in
set_option maxHeartbeats 4000000 in
theorem gbX0_copy_96 {E : gx_Env} {d : Nat}  (k96 : Nat → Nat → Int32 → gx_H → Option (Unit × gx_H)) (hk96 : ∀ (v0 : Nat) (v1 : Nat) (v2 : Int32) (h : gx_H), gx_G E RX0 cX0_copy 3 none false d 0 0 96 [some (.ref v0), some (.ref v1), some (.int v2)] [] h (fun _ : Unit => none) (k96 v0 v1 v2 h))  : ∀ (v0 : Nat) (v1 : Nat) (v2 : Int32) (h : gx_H), gx_G E RX0 cX0_copy 3 none false d 0 0 96 [some (.ref v0), some (.ref v1), some (.int v2)] [] h (fun _ : Unit => none) (bX0_copy_96 k96 v0 v1 v2 h) := by
  intro v0 v1 v2 h
  unfold bX0_copy_96
  refine gx_iload_n 2 dX0_copy_96 rfl rfl ?_
  refine gx_iconst (4 : Int32) dX0_copy_97 (by decide) ?_
  refine gx_icmp_ge 143 dX0_copy_98 (by decide) (fun _ => ?_) (fun _ => ?_)
  · exact gx_vret dX0_copy_143 rfl
  · refine gx_aload_n 0 dX0_copy_101 rfl rfl ?_
    refine gx_getR kf_RX0_37 dX0_copy_102 (fun a25 => ?_)
    refine gx_iload_n 2 dX0_copy_105 rfl rfl ?_
    refine gx_aload_n 1 dX0_copy_106 rfl rfl ?_
    refine gx_getR kf_RX0_37 dX0_copy_107 (fun a26 => ?_)
    refine gx_iload_n 2 dX0_copy_110 rfl rfl ?_
    refine gx_iald dX0_copy_111 (fun x27 => ?_)
    refine gx_iast dX0_copy_112 (fun h28 => ?_)
    refine gx_aload_n 0 dX0_copy_113 rfl rfl ?_
    refine gx_getR kf_RX0_40 dX0_copy_114 (fun a29 => ?_)
    refine gx_iload_n 2 dX0_copy_117 rfl rfl ?_
    refine gx_aload_n 1 dX0_copy_118 rfl rfl ?_
    refine gx_getR kf_RX0_40 dX0_copy_119 (fun a30 => ?_)
    refine gx_iload_n 2 dX0_copy_122 rfl rfl ?_
    refine gx_iald dX0_copy_123 (fun x31 => ?_)
    refine gx_iast dX0_copy_124 (fun h32 => ?_)
    refine gx_aload_n 0 dX0_copy_125 rfl rfl ?_
    refine gx_getR kf_RX0_43 dX0_copy_126 (fun a33 => ?_)
    refine gx_iload_n 2 dX0_copy_129 rfl rfl ?_
    refine gx_aload_n 1 dX0_copy_130 rfl rfl ?_
    refine gx_getR kf_RX0_43 dX0_copy_131 (fun a34 => ?_)
    refine gx_iload_n 2 dX0_copy_134 rfl rfl ?_
    refine gx_iald dX0_copy_135 (fun x35 => ?_)
    refine gx_iast dX0_copy_136 (fun h36 => ?_)
    refine gx_iinc (1 : Int32) [some (.ref v0), some (.ref v1), some (.int (v2 + (1 : Int32)))] dX0_copy_137 rfl (by decide) (by decide) rfl ?_
    refine gx_goto 96 dX0_copy_140 (by decide) ?_
    exact gx_sub (hk96 v0 v1 (v2 + (1 : Int32)) h36) (And.intro rfl (And.intro rfl (And.intro rfl True.intro)))
set_option maxRecDepth 100000 in
set_option maxHeartbeats 4000000 in
theorem gX0_copy_96 {E : gx_Env} {d : Nat}  : ∀ (n : Nat) (v0 : Nat) (v1 : Nat) (v2 : Int32) (h : gx_H), gx_G E RX0 cX0_copy 3 none false d 0 0 96 [some (.ref v0), some (.ref v1), some (.int v2)] [] h (fun _ : Unit => none) (fX0_copy_96 n v0 v1 v2 h) := by
  intro n
  induction n with
  | zero => intro v0 v1 v2 h; exact gx_none
  | succ n ih => exact gbX0_copy_96  (fX0_copy_96  n) ih
set_option maxRecDepth 100000 in
set_option maxHeartbeats 4000000 in
theorem gbX0_copy_34 {E : gx_Env} {d : Nat}  (k34 : Nat → Nat → Int32 → gx_H → Option (Unit × gx_H)) (hk34 : ∀ (v0 : Nat) (v1 : Nat) (v2 : Int32) (h : gx_H), gx_G E RX0 cX0_copy 3 none false d 0 0 34 [some (.ref v0), some (.ref v1), some (.int v2)] [] h (fun _ : Unit => none) (k34 v0 v1 v2 h))  : ∀ (v0 : Nat) (v1 : Nat) (v2 : Int32) (h : gx_H), gx_G E RX0 cX0_copy 3 none false d 0 0 34 [some (.ref v0), some (.ref v1), some (.int v2)] [] h (fun _ : Unit => none) (bX0_copy_34 k34 v0 v1 v2 h) := by
  intro v0 v1 v2 h
  unfold bX0_copy_34
  refine gx_iload_n 2 dX0_copy_34 rfl rfl ?_
  refine gx_bipush (6 : Int32) dX0_copy_35 (by decide) ?_
  refine gx_icmp_ge 94 dX0_copy_37 (by decide) (fun _ => ?_) (fun _ => ?_)
  · refine gx_iconst (0 : Int32) dX0_copy_94 (by decide) ?_
    refine gx_istore_n 2 [some (.ref v0), some (.ref v1), some (.int (0 : Int32))] dX0_copy_95 rfl (by decide) rfl ?_
    exact gx_sub (gX0_copy_96 gx_N v0 v1 (0 : Int32) h) (And.intro rfl (And.intro rfl (And.intro rfl True.intro)))
  · refine gx_aload_n 0 dX0_copy_40 rfl rfl ?_
    refine gx_getR kf_RX0_24 dX0_copy_41 (fun a9 => ?_)
    refine gx_iload_n 2 dX0_copy_44 rfl rfl ?_
    refine gx_aload_n 1 dX0_copy_45 rfl rfl ?_
    refine gx_getR kf_RX0_24 dX0_copy_46 (fun a10 => ?_)
    refine gx_iload_n 2 dX0_copy_49 rfl rfl ?_
    refine gx_iald dX0_copy_50 (fun x11 => ?_)
    refine gx_iast dX0_copy_51 (fun h12 => ?_)
    refine gx_aload_n 0 dX0_copy_52 rfl rfl ?_
    refine gx_getR kf_RX0_28 dX0_copy_53 (fun a13 => ?_)
    refine gx_iload_n 2 dX0_copy_56 rfl rfl ?_
    refine gx_aload_n 1 dX0_copy_57 rfl rfl ?_
    refine gx_getR kf_RX0_28 dX0_copy_58 (fun a14 => ?_)
    refine gx_iload_n 2 dX0_copy_61 rfl rfl ?_
    refine gx_iald dX0_copy_62 (fun x15 => ?_)
    refine gx_iast dX0_copy_63 (fun h16 => ?_)
    refine gx_aload_n 0 dX0_copy_64 rfl rfl ?_
    refine gx_getR kf_RX0_31 dX0_copy_65 (fun a17 => ?_)
    refine gx_iload_n 2 dX0_copy_68 rfl rfl ?_
    refine gx_aload_n 1 dX0_copy_69 rfl rfl ?_
    refine gx_getR kf_RX0_31 dX0_copy_70 (fun a18 => ?_)
    refine gx_iload_n 2 dX0_copy_73 rfl rfl ?_
    refine gx_iald dX0_copy_74 (fun x19 => ?_)
    refine gx_iast dX0_copy_75 (fun h20 => ?_)
    refine gx_aload_n 0 dX0_copy_76 rfl rfl ?_
    refine gx_getR kf_RX0_34 dX0_copy_77 (fun a21 => ?_)
    refine gx_iload_n 2 dX0_copy_80 rfl rfl ?_
    refine gx_aload_n 1 dX0_copy_81 rfl rfl ?_
    refine gx_getR kf_RX0_34 dX0_copy_82 (fun a22 => ?_)
    refine gx_iload_n 2 dX0_copy_85 rfl rfl ?_
    refine gx_iald dX0_copy_86 (fun x23 => ?_)
    refine gx_iast dX0_copy_87 (fun h24 => ?_)
    refine gx_iinc (1 : Int32) [some (.ref v0), some (.ref v1), some (.int (v2 + (1 : Int32)))] dX0_copy_88 rfl (by decide) (by decide) rfl ?_
    refine gx_goto 34 dX0_copy_91 (by decide) ?_
    exact gx_sub (hk34 v0 v1 (v2 + (1 : Int32)) h24) (And.intro rfl (And.intro rfl (And.intro rfl True.intro)))
set_option maxRecDepth 100000 in
set_option maxHeartbeats 4000000 in
theorem gX0_copy_34 {E : gx_Env} {d : Nat}  : ∀ (n : Nat) (v0 : Nat) (v1 : Nat) (v2 : Int32) (h : gx_H), gx_G E RX0 cX0_copy 3 none false d 0 0 34 [some (.ref v0), some (.ref v1), some (.int v2)] [] h (fun _ : Unit => none) (fX0_copy_34 n v0 v1 v2 h) := by
  intro n
  induction n with
  | zero => intro v0 v1 v2 h; exact gx_none
  | succ n ih => exact gbX0_copy_34  (fX0_copy_34  n) ih
set_option maxRecDepth 100000 in
set_option maxHeartbeats 4000000 in
theorem geX0_copy {E : gx_Env} {d : Nat} (v0 : Nat) (v1 : Nat) (h : gx_H) : gx_G E RX0 cX0_copy 3 none false d 0 0 0 [some (.ref v0), some (.ref v1), none] [] h (fun _ : Unit => none) (fX0_copy v0 v1 h) := by
  unfold fX0_copy
  refine gx_bind fun _ _ => ?_
  refine gx_aload_n 0 dX0_copy_0 rfl rfl ?_
  refine gx_aload_n 1 dX0_copy_1 rfl rfl ?_
  refine gx_getI kf_RX0_9 dX0_copy_2 (fun x1 => ?_)
  refine gx_putI kp_RX0_9 (fun q => by cases q) dX0_copy_5 (fun h2 => ?_)
  refine gx_aload_n 0 dX0_copy_8 rfl rfl ?_
  refine gx_aload_n 1 dX0_copy_9 rfl rfl ?_
  refine gx_getI kf_RX0_15 dX0_copy_10 (fun x3 => ?_)
  refine gx_putI kp_RX0_15 (fun q => by cases q) dX0_copy_13 (fun h4 => ?_)
  refine gx_aload_n 0 dX0_copy_16 rfl rfl ?_
  refine gx_aload_n 1 dX0_copy_17 rfl rfl ?_
  refine gx_getI kf_RX0_18 dX0_copy_18 (fun x5 => ?_)
  refine gx_putI kp_RX0_18 (fun q => by cases q) dX0_copy_21 (fun h6 => ?_)
  refine gx_aload_n 0 dX0_copy_24 rfl rfl ?_
  refine gx_aload_n 1 dX0_copy_25 rfl rfl ?_
  refine gx_getI kf_RX0_21 dX0_copy_26 (fun x7 => ?_)
  refine gx_putI kp_RX0_21 (fun q => by cases q) dX0_copy_29 (fun h8 => ?_)
  refine gx_iconst (0 : Int32) dX0_copy_32 (by decide) ?_
  refine gx_istore_n 2 [some (.ref v0), some (.ref v1), some (.int (0 : Int32))] dX0_copy_33 rfl (by decide) rfl ?_
  exact gx_sub (gX0_copy_34 gx_N v0 v1 (0 : Int32) h8) (And.intro rfl (And.intro rfl (And.intro rfl True.intro)))
theorem okX0_copy {E : gx_Env} (d : Nat) {v0 : Nat} {v1 : Nat} {h : gx_H} {r : Unit} {h1 : gx_H} (q : fX0_copy v0 v1 h = some (r, h1)) : gx_M E yX0_copy cX0_copy 3 none d 0 0 [.ref v0, .ref v1] h ((fun _ : Unit => none) r) h1 := gx_meth (y := yX0_copy) (cc := cX0_copy) (nL := 3) (em := (fun _ : Unit => none)) (ini := false) [.ref v0, .ref v1] (by decide) (by simp [gx_sl]) (fun q => by cases q) (geX0_copy v0 v1 h) q
theorem dX0_addLink_0 : decode cX0_addLink 0 = .ok (.aload_n 0, 1) := by decide +kernel
theorem dX0_addLink_1 : decode cX0_addLink 1 = .ok (.getfield 18, 3) := by decide +kernel
theorem dX0_addLink_4 : decode cX0_addLink 4 = .ok (.istore 4, 2) := by decide +kernel
theorem dX0_addLink_6 : decode cX0_addLink 6 = .ok (.iload 4, 2) := by decide +kernel
theorem dX0_addLink_8 : decode cX0_addLink 8 = .ok (.bipush 6, 2) := by decide +kernel
theorem dX0_addLink_10 : decode cX0_addLink 10 = .ok (.if_icmp .lt 5, 3) := by decide +kernel
theorem dX0_addLink_13 : decode cX0_addLink 13 = .ok (.iconst (-1), 1) := by decide +kernel
theorem dX0_addLink_14 : decode cX0_addLink 14 = .ok (.ireturn, 1) := by decide +kernel
theorem dX0_addLink_15 : decode cX0_addLink 15 = .ok (.aload_n 0, 1) := by decide +kernel
theorem dX0_addLink_16 : decode cX0_addLink 16 = .ok (.getfield 24, 3) := by decide +kernel
theorem dX0_addLink_19 : decode cX0_addLink 19 = .ok (.iload 4, 2) := by decide +kernel
theorem dX0_addLink_21 : decode cX0_addLink 21 = .ok (.iload_n 1, 1) := by decide +kernel
theorem dX0_addLink_22 : decode cX0_addLink 22 = .ok (.iastore, 1) := by decide +kernel
theorem dX0_addLink_23 : decode cX0_addLink 23 = .ok (.aload_n 0, 1) := by decide +kernel
theorem dX0_addLink_24 : decode cX0_addLink 24 = .ok (.getfield 28, 3) := by decide +kernel
theorem dX0_addLink_27 : decode cX0_addLink 27 = .ok (.iload 4, 2) := by decide +kernel
theorem dX0_addLink_29 : decode cX0_addLink 29 = .ok (.iload_n 2, 1) := by decide +kernel
theorem dX0_addLink_30 : decode cX0_addLink 30 = .ok (.iastore, 1) := by decide +kernel
theorem dX0_addLink_31 : decode cX0_addLink 31 = .ok (.aload_n 0, 1) := by decide +kernel
theorem dX0_addLink_32 : decode cX0_addLink 32 = .ok (.getfield 31, 3) := by decide +kernel
theorem dX0_addLink_35 : decode cX0_addLink 35 = .ok (.iload 4, 2) := by decide +kernel
theorem dX0_addLink_37 : decode cX0_addLink 37 = .ok (.iload_n 3, 1) := by decide +kernel
theorem dX0_addLink_38 : decode cX0_addLink 38 = .ok (.iastore, 1) := by decide +kernel
theorem dX0_addLink_39 : decode cX0_addLink 39 = .ok (.aload_n 0, 1) := by decide +kernel
theorem dX0_addLink_40 : decode cX0_addLink 40 = .ok (.getfield 34, 3) := by decide +kernel
theorem dX0_addLink_43 : decode cX0_addLink 43 = .ok (.iload 4, 2) := by decide +kernel
theorem dX0_addLink_45 : decode cX0_addLink 45 = .ok (.iconst 0, 1) := by decide +kernel
theorem dX0_addLink_46 : decode cX0_addLink 46 = .ok (.iastore, 1) := by decide +kernel
theorem dX0_addLink_47 : decode cX0_addLink 47 = .ok (.aload_n 0, 1) := by decide +kernel
theorem dX0_addLink_48 : decode cX0_addLink 48 = .ok (.dup, 1) := by decide +kernel
theorem dX0_addLink_49 : decode cX0_addLink 49 = .ok (.getfield 18, 3) := by decide +kernel
theorem dX0_addLink_52 : decode cX0_addLink 52 = .ok (.iconst 1, 1) := by decide +kernel
theorem dX0_addLink_53 : decode cX0_addLink 53 = .ok (.iadd, 1) := by decide +kernel
theorem dX0_addLink_54 : decode cX0_addLink 54 = .ok (.putfield 18, 3) := by decide +kernel
theorem dX0_addLink_57 : decode cX0_addLink 57 = .ok (.iload 4, 2) := by decide +kernel
theorem dX0_addLink_59 : decode cX0_addLink 59 = .ok (.ireturn, 1) := by decide +kernel
def fX0_addLink (v0 : Nat) (v1 : Int32) (v2 : Int32) (v3 : Int32) (h : gx_H) : Option (Int32 × gx_H) :=
  (gx_isO h v0 0).bind fun _ =>
  (gx_fI h v0 0 2).bind fun x1 =>
  if x1 < (6 : Int32) then
    (gx_fR h v0 0 4).bind fun a2 =>
    (gx_sI 0 h a2 x1 v1).bind fun h3 =>
    (gx_fR h3 v0 0 5).bind fun a4 =>
    (gx_sI 0 h3 a4 x1 v2).bind fun h5 =>
    (gx_fR h5 v0 0 6).bind fun a6 =>
    (gx_sI 0 h5 a6 x1 v3).bind fun h7 =>
    (gx_fR h7 v0 0 7).bind fun a8 =>
    (gx_sI 0 h7 a8 x1 (0 : Int32)).bind fun h9 =>
    (gx_fI h9 v0 0 2).bind fun x10 =>
    (gx_pF h9 v0 0 2 (.int (x10 + (1 : Int32)))).bind fun h11 =>
    some (x1, h11)
  else
    some ((-1 : Int32), h)
set_option maxRecDepth 100000 in
set_option maxHeartbeats 4000000 in
theorem geX0_addLink {E : gx_Env} {d : Nat} (v0 : Nat) (v1 : Int32) (v2 : Int32) (v3 : Int32) (h : gx_H) : gx_G E RX0 cX0_addLink 5 (some .int) false d 0 0 0 [some (.ref v0), some (.int v1), some (.int v2), some (.int v3), none] [] h (fun x : Int32 => some (.int x)) (fX0_addLink v0 v1 v2 v3 h) := by
  unfold fX0_addLink
  refine gx_bind fun _ _ => ?_
  refine gx_aload_n 0 dX0_addLink_0 rfl rfl ?_
  refine gx_getI kf_RX0_18 dX0_addLink_1 (fun x1 => ?_)
  refine gx_istore [some (.ref v0), some (.int v1), some (.int v2), some (.int v3), some (.int x1)] dX0_addLink_4 (by decide) rfl ?_
  refine gx_iload dX0_addLink_6 rfl ?_
  refine gx_bipush (6 : Int32) dX0_addLink_8 (by decide) ?_
  refine gx_icmp_lt 15 dX0_addLink_10 (by decide) (fun _ => ?_) (fun _ => ?_)
  · refine gx_aload_n 0 dX0_addLink_15 rfl rfl ?_
    refine gx_getR kf_RX0_24 dX0_addLink_16 (fun a2 => ?_)
    refine gx_iload dX0_addLink_19 rfl ?_
    refine gx_iload_n 1 dX0_addLink_21 rfl rfl ?_
    refine gx_iast dX0_addLink_22 (fun h3 => ?_)
    refine gx_aload_n 0 dX0_addLink_23 rfl rfl ?_
    refine gx_getR kf_RX0_28 dX0_addLink_24 (fun a4 => ?_)
    refine gx_iload dX0_addLink_27 rfl ?_
    refine gx_iload_n 2 dX0_addLink_29 rfl rfl ?_
    refine gx_iast dX0_addLink_30 (fun h5 => ?_)
    refine gx_aload_n 0 dX0_addLink_31 rfl rfl ?_
    refine gx_getR kf_RX0_31 dX0_addLink_32 (fun a6 => ?_)
    refine gx_iload dX0_addLink_35 rfl ?_
    refine gx_iload_n 3 dX0_addLink_37 rfl rfl ?_
    refine gx_iast dX0_addLink_38 (fun h7 => ?_)
    refine gx_aload_n 0 dX0_addLink_39 rfl rfl ?_
    refine gx_getR kf_RX0_34 dX0_addLink_40 (fun a8 => ?_)
    refine gx_iload dX0_addLink_43 rfl ?_
    refine gx_iconst (0 : Int32) dX0_addLink_45 (by decide) ?_
    refine gx_iast dX0_addLink_46 (fun h9 => ?_)
    refine gx_aload_n 0 dX0_addLink_47 rfl rfl ?_
    refine gx_dup dX0_addLink_48 rfl ?_
    refine gx_getI kf_RX0_18 dX0_addLink_49 (fun x10 => ?_)
    refine gx_iconst (1 : Int32) dX0_addLink_52 (by decide) ?_
    refine gx_iadd dX0_addLink_53 ?_
    refine gx_putI kp_RX0_18 (fun q => by cases q) dX0_addLink_54 (fun h11 => ?_)
    refine gx_iload dX0_addLink_57 rfl ?_
    exact gx_iret dX0_addLink_59 rfl
  · refine gx_iconst (-1 : Int32) dX0_addLink_13 (by decide) ?_
    exact gx_iret dX0_addLink_14 rfl
theorem okX0_addLink {E : gx_Env} (d : Nat) {v0 : Nat} {v1 : Int32} {v2 : Int32} {v3 : Int32} {h : gx_H} {r : Int32} {h1 : gx_H} (q : fX0_addLink v0 v1 v2 v3 h = some (r, h1)) : gx_M E yX0_addLink cX0_addLink 5 (some .int) d 0 0 [.ref v0, .int v1, .int v2, .int v3] h ((fun x : Int32 => some (.int x)) r) h1 := gx_meth (y := yX0_addLink) (cc := cX0_addLink) (nL := 5) (em := (fun x : Int32 => some (.int x))) (ini := false) [.ref v0, .int v1, .int v2, .int v3] (by decide) (by simp [gx_sl]) (fun q => by cases q) (geX0_addLink v0 v1 v2 v3 h) q
theorem dX0_addPlayer_0 : decode cX0_addPlayer 0 = .ok (.aload_n 0, 1) := by decide +kernel
theorem dX0_addPlayer_1 : decode cX0_addPlayer 1 = .ok (.getfield 21, 3) := by decide +kernel
theorem dX0_addPlayer_4 : decode cX0_addPlayer 4 = .ok (.istore_n 2, 1) := by decide +kernel
theorem dX0_addPlayer_5 : decode cX0_addPlayer 5 = .ok (.iload_n 2, 1) := by decide +kernel
theorem dX0_addPlayer_6 : decode cX0_addPlayer 6 = .ok (.iconst 4, 1) := by decide +kernel
theorem dX0_addPlayer_7 : decode cX0_addPlayer 7 = .ok (.if_icmp .lt 5, 3) := by decide +kernel
theorem dX0_addPlayer_10 : decode cX0_addPlayer 10 = .ok (.iconst (-1), 1) := by decide +kernel
theorem dX0_addPlayer_11 : decode cX0_addPlayer 11 = .ok (.ireturn, 1) := by decide +kernel
theorem dX0_addPlayer_12 : decode cX0_addPlayer 12 = .ok (.aload_n 0, 1) := by decide +kernel
theorem dX0_addPlayer_13 : decode cX0_addPlayer 13 = .ok (.getfield 37, 3) := by decide +kernel
theorem dX0_addPlayer_16 : decode cX0_addPlayer 16 = .ok (.iload_n 2, 1) := by decide +kernel
theorem dX0_addPlayer_17 : decode cX0_addPlayer 17 = .ok (.iload_n 1, 1) := by decide +kernel
theorem dX0_addPlayer_18 : decode cX0_addPlayer 18 = .ok (.iastore, 1) := by decide +kernel
theorem dX0_addPlayer_19 : decode cX0_addPlayer 19 = .ok (.aload_n 0, 1) := by decide +kernel
theorem dX0_addPlayer_20 : decode cX0_addPlayer 20 = .ok (.getfield 40, 3) := by decide +kernel
theorem dX0_addPlayer_23 : decode cX0_addPlayer 23 = .ok (.iload_n 2, 1) := by decide +kernel
theorem dX0_addPlayer_24 : decode cX0_addPlayer 24 = .ok (.iconst 0, 1) := by decide +kernel
theorem dX0_addPlayer_25 : decode cX0_addPlayer 25 = .ok (.iastore, 1) := by decide +kernel
theorem dX0_addPlayer_26 : decode cX0_addPlayer 26 = .ok (.aload_n 0, 1) := by decide +kernel
theorem dX0_addPlayer_27 : decode cX0_addPlayer 27 = .ok (.getfield 43, 3) := by decide +kernel
theorem dX0_addPlayer_30 : decode cX0_addPlayer 30 = .ok (.iload_n 2, 1) := by decide +kernel
theorem dX0_addPlayer_31 : decode cX0_addPlayer 31 = .ok (.iconst 0, 1) := by decide +kernel
theorem dX0_addPlayer_32 : decode cX0_addPlayer 32 = .ok (.iastore, 1) := by decide +kernel
theorem dX0_addPlayer_33 : decode cX0_addPlayer 33 = .ok (.aload_n 0, 1) := by decide +kernel
theorem dX0_addPlayer_34 : decode cX0_addPlayer 34 = .ok (.dup, 1) := by decide +kernel
theorem dX0_addPlayer_35 : decode cX0_addPlayer 35 = .ok (.getfield 21, 3) := by decide +kernel
theorem dX0_addPlayer_38 : decode cX0_addPlayer 38 = .ok (.iconst 1, 1) := by decide +kernel
theorem dX0_addPlayer_39 : decode cX0_addPlayer 39 = .ok (.iadd, 1) := by decide +kernel
theorem dX0_addPlayer_40 : decode cX0_addPlayer 40 = .ok (.putfield 21, 3) := by decide +kernel
theorem dX0_addPlayer_43 : decode cX0_addPlayer 43 = .ok (.iload_n 2, 1) := by decide +kernel
theorem dX0_addPlayer_44 : decode cX0_addPlayer 44 = .ok (.ireturn, 1) := by decide +kernel
def fX0_addPlayer (v0 : Nat) (v1 : Int32) (h : gx_H) : Option (Int32 × gx_H) :=
  (gx_isO h v0 0).bind fun _ =>
  (gx_fI h v0 0 3).bind fun x1 =>
  if x1 < (4 : Int32) then
    (gx_fR h v0 0 8).bind fun a2 =>
    (gx_sI 0 h a2 x1 v1).bind fun h3 =>
    (gx_fR h3 v0 0 9).bind fun a4 =>
    (gx_sI 0 h3 a4 x1 (0 : Int32)).bind fun h5 =>
    (gx_fR h5 v0 0 10).bind fun a6 =>
    (gx_sI 0 h5 a6 x1 (0 : Int32)).bind fun h7 =>
    (gx_fI h7 v0 0 3).bind fun x8 =>
    (gx_pF h7 v0 0 3 (.int (x8 + (1 : Int32)))).bind fun h9 =>
    some (x1, h9)
  else
    some ((-1 : Int32), h)
set_option maxRecDepth 100000 in
set_option maxHeartbeats 4000000 in
theorem geX0_addPlayer {E : gx_Env} {d : Nat} (v0 : Nat) (v1 : Int32) (h : gx_H) : gx_G E RX0 cX0_addPlayer 3 (some .int) false d 0 0 0 [some (.ref v0), some (.int v1), none] [] h (fun x : Int32 => some (.int x)) (fX0_addPlayer v0 v1 h) := by
  unfold fX0_addPlayer
  refine gx_bind fun _ _ => ?_
  refine gx_aload_n 0 dX0_addPlayer_0 rfl rfl ?_
  refine gx_getI kf_RX0_21 dX0_addPlayer_1 (fun x1 => ?_)
  refine gx_istore_n 2 [some (.ref v0), some (.int v1), some (.int x1)] dX0_addPlayer_4 rfl (by decide) rfl ?_
  refine gx_iload_n 2 dX0_addPlayer_5 rfl rfl ?_
  refine gx_iconst (4 : Int32) dX0_addPlayer_6 (by decide) ?_
  refine gx_icmp_lt 12 dX0_addPlayer_7 (by decide) (fun _ => ?_) (fun _ => ?_)
  · refine gx_aload_n 0 dX0_addPlayer_12 rfl rfl ?_
    refine gx_getR kf_RX0_37 dX0_addPlayer_13 (fun a2 => ?_)
    refine gx_iload_n 2 dX0_addPlayer_16 rfl rfl ?_
    refine gx_iload_n 1 dX0_addPlayer_17 rfl rfl ?_
    refine gx_iast dX0_addPlayer_18 (fun h3 => ?_)
    refine gx_aload_n 0 dX0_addPlayer_19 rfl rfl ?_
    refine gx_getR kf_RX0_40 dX0_addPlayer_20 (fun a4 => ?_)
    refine gx_iload_n 2 dX0_addPlayer_23 rfl rfl ?_
    refine gx_iconst (0 : Int32) dX0_addPlayer_24 (by decide) ?_
    refine gx_iast dX0_addPlayer_25 (fun h5 => ?_)
    refine gx_aload_n 0 dX0_addPlayer_26 rfl rfl ?_
    refine gx_getR kf_RX0_43 dX0_addPlayer_27 (fun a6 => ?_)
    refine gx_iload_n 2 dX0_addPlayer_30 rfl rfl ?_
    refine gx_iconst (0 : Int32) dX0_addPlayer_31 (by decide) ?_
    refine gx_iast dX0_addPlayer_32 (fun h7 => ?_)
    refine gx_aload_n 0 dX0_addPlayer_33 rfl rfl ?_
    refine gx_dup dX0_addPlayer_34 rfl ?_
    refine gx_getI kf_RX0_21 dX0_addPlayer_35 (fun x8 => ?_)
    refine gx_iconst (1 : Int32) dX0_addPlayer_38 (by decide) ?_
    refine gx_iadd dX0_addPlayer_39 ?_
    refine gx_putI kp_RX0_21 (fun q => by cases q) dX0_addPlayer_40 (fun h9 => ?_)
    refine gx_iload_n 2 dX0_addPlayer_43 rfl rfl ?_
    exact gx_iret dX0_addPlayer_44 rfl
  · refine gx_iconst (-1 : Int32) dX0_addPlayer_10 (by decide) ?_
    exact gx_iret dX0_addPlayer_11 rfl
theorem okX0_addPlayer {E : gx_Env} (d : Nat) {v0 : Nat} {v1 : Int32} {h : gx_H} {r : Int32} {h1 : gx_H} (q : fX0_addPlayer v0 v1 h = some (r, h1)) : gx_M E yX0_addPlayer cX0_addPlayer 3 (some .int) d 0 0 [.ref v0, .int v1] h ((fun x : Int32 => some (.int x)) r) h1 := gx_meth (y := yX0_addPlayer) (cc := cX0_addPlayer) (nL := 3) (em := (fun x : Int32 => some (.int x))) (ini := false) [.ref v0, .int v1] (by decide) (by simp [gx_sl]) (fun q => by cases q) (geX0_addPlayer v0 v1 h) q
theorem dX0_linkOn_0 : decode cX0_linkOn 0 = .ok (.iconst 0, 1) := by decide +kernel
theorem dX0_linkOn_1 : decode cX0_linkOn 1 = .ok (.istore_n 2, 1) := by decide +kernel
theorem dX0_linkOn_2 : decode cX0_linkOn 2 = .ok (.iload_n 2, 1) := by decide +kernel
theorem dX0_linkOn_3 : decode cX0_linkOn 3 = .ok (.aload_n 0, 1) := by decide +kernel
theorem dX0_linkOn_4 : decode cX0_linkOn 4 = .ok (.getfield 18, 3) := by decide +kernel
theorem dX0_linkOn_7 : decode cX0_linkOn 7 = .ok (.if_icmp .ge 21, 3) := by decide +kernel
theorem dX0_linkOn_10 : decode cX0_linkOn 10 = .ok (.aload_n 0, 1) := by decide +kernel
theorem dX0_linkOn_11 : decode cX0_linkOn 11 = .ok (.getfield 28, 3) := by decide +kernel
theorem dX0_linkOn_14 : decode cX0_linkOn 14 = .ok (.iload_n 2, 1) := by decide +kernel
theorem dX0_linkOn_15 : decode cX0_linkOn 15 = .ok (.iaload, 1) := by decide +kernel
theorem dX0_linkOn_16 : decode cX0_linkOn 16 = .ok (.iload_n 1, 1) := by decide +kernel
theorem dX0_linkOn_17 : decode cX0_linkOn 17 = .ok (.if_icmp .ne 5, 3) := by decide +kernel
theorem dX0_linkOn_20 : decode cX0_linkOn 20 = .ok (.iload_n 2, 1) := by decide +kernel
theorem dX0_linkOn_21 : decode cX0_linkOn 21 = .ok (.ireturn, 1) := by decide +kernel
theorem dX0_linkOn_22 : decode cX0_linkOn 22 = .ok (.iinc 2 1, 3) := by decide +kernel
theorem dX0_linkOn_25 : decode cX0_linkOn 25 = .ok (.goto (-23), 3) := by decide +kernel
theorem dX0_linkOn_28 : decode cX0_linkOn 28 = .ok (.iconst (-1), 1) := by decide +kernel
theorem dX0_linkOn_29 : decode cX0_linkOn 29 = .ok (.ireturn, 1) := by decide +kernel
def bX0_linkOn_2 (k2 : Nat → Int32 → Int32 → gx_H → Option (Int32 × gx_H)) (v0 : Nat) (v1 : Int32) (v2 : Int32) (h : gx_H) : Option (Int32 × gx_H) :=
  (gx_fI h v0 0 2).bind fun x1 =>
  if x1 ≤ v2 then
    some ((-1 : Int32), h)
  else
    (gx_fR h v0 0 5).bind fun a2 =>
    (gx_aI 0 h a2 v2).bind fun x3 =>
    if x3 = v1 then
      some (v2, h)
    else
      k2 v0 v1 (v2 + (1 : Int32)) h
def fX0_linkOn_2 : Nat → Nat → Int32 → Int32 → gx_H → Option (Int32 × gx_H)
  | 0 => fun _ _ _ _ => none
  | n + 1 => bX0_linkOn_2 (fX0_linkOn_2 n)
def fX0_linkOn (v0 : Nat) (v1 : Int32) (h : gx_H) : Option (Int32 × gx_H) :=
  (gx_isO h v0 0).bind fun _ =>
  fX0_linkOn_2 gx_N v0 v1 (0 : Int32) h
set_option maxRecDepth 100000 in
set_option maxHeartbeats 4000000 in
theorem gbX0_linkOn_2 {E : gx_Env} {d : Nat}  (k2 : Nat → Int32 → Int32 → gx_H → Option (Int32 × gx_H)) (hk2 : ∀ (v0 : Nat) (v1 : Int32) (v2 : Int32) (h : gx_H), gx_G E RX0 cX0_linkOn 3 (some .int) false d 0 0 2 [some (.ref v0), some (.int v1), some (.int v2)] [] h (fun x : Int32 => some (.int x)) (k2 v0 v1 v2 h))  : ∀ (v0 : Nat) (v1 : Int32) (v2 : Int32) (h : gx_H), gx_G E RX0 cX0_linkOn 3 (some .int) false d 0 0 2 [some (.ref v0), some (.int v1), some (.int v2)] [] h (fun x : Int32 => some (.int x)) (bX0_linkOn_2 k2 v0 v1 v2 h) := by
  intro v0 v1 v2 h
  unfold bX0_linkOn_2
  refine gx_iload_n 2 dX0_linkOn_2 rfl rfl ?_
  refine gx_aload_n 0 dX0_linkOn_3 rfl rfl ?_
  refine gx_getI kf_RX0_18 dX0_linkOn_4 (fun x1 => ?_)
  refine gx_icmp_ge 28 dX0_linkOn_7 (by decide) (fun _ => ?_) (fun _ => ?_)
  · refine gx_iconst (-1 : Int32) dX0_linkOn_28 (by decide) ?_
    exact gx_iret dX0_linkOn_29 rfl
  · refine gx_aload_n 0 dX0_linkOn_10 rfl rfl ?_
    refine gx_getR kf_RX0_28 dX0_linkOn_11 (fun a2 => ?_)
    refine gx_iload_n 2 dX0_linkOn_14 rfl rfl ?_
    refine gx_iald dX0_linkOn_15 (fun x3 => ?_)
    refine gx_iload_n 1 dX0_linkOn_16 rfl rfl ?_
    refine gx_icmp_ne 22 dX0_linkOn_17 (by decide) (fun _ => ?_) (fun _ => ?_)
    · refine gx_iinc (1 : Int32) [some (.ref v0), some (.int v1), some (.int (v2 + (1 : Int32)))] dX0_linkOn_22 rfl (by decide) (by decide) rfl ?_
      refine gx_goto 2 dX0_linkOn_25 (by decide) ?_
      exact gx_sub (hk2 v0 v1 (v2 + (1 : Int32)) h) (And.intro rfl (And.intro rfl (And.intro rfl True.intro)))
    · refine gx_iload_n 2 dX0_linkOn_20 rfl rfl ?_
      exact gx_iret dX0_linkOn_21 rfl
set_option maxRecDepth 100000 in
set_option maxHeartbeats 4000000 in
theorem gX0_linkOn_2 {E : gx_Env} {d : Nat}  : ∀ (n : Nat) (v0 : Nat) (v1 : Int32) (v2 : Int32) (h : gx_H), gx_G E RX0 cX0_linkOn 3 (some .int) false d 0 0 2 [some (.ref v0), some (.int v1), some (.int v2)] [] h (fun x : Int32 => some (.int x)) (fX0_linkOn_2 n v0 v1 v2 h) := by
  intro n
  induction n with
  | zero => intro v0 v1 v2 h; exact gx_none
  | succ n ih => exact gbX0_linkOn_2  (fX0_linkOn_2  n) ih
set_option maxRecDepth 100000 in
set_option maxHeartbeats 4000000 in
theorem geX0_linkOn {E : gx_Env} {d : Nat} (v0 : Nat) (v1 : Int32) (h : gx_H) : gx_G E RX0 cX0_linkOn 3 (some .int) false d 0 0 0 [some (.ref v0), some (.int v1), none] [] h (fun x : Int32 => some (.int x)) (fX0_linkOn v0 v1 h) := by
  unfold fX0_linkOn
  refine gx_bind fun _ _ => ?_
  refine gx_iconst (0 : Int32) dX0_linkOn_0 (by decide) ?_
  refine gx_istore_n 2 [some (.ref v0), some (.int v1), some (.int (0 : Int32))] dX0_linkOn_1 rfl (by decide) rfl ?_
  exact gx_sub (gX0_linkOn_2 gx_N v0 v1 (0 : Int32) h) (And.intro rfl (And.intro rfl (And.intro rfl True.intro)))
theorem okX0_linkOn {E : gx_Env} (d : Nat) {v0 : Nat} {v1 : Int32} {h : gx_H} {r : Int32} {h1 : gx_H} (q : fX0_linkOn v0 v1 h = some (r, h1)) : gx_M E yX0_linkOn cX0_linkOn 3 (some .int) d 0 0 [.ref v0, .int v1] h ((fun x : Int32 => some (.int x)) r) h1 := gx_meth (y := yX0_linkOn) (cc := cX0_linkOn) (nL := 3) (em := (fun x : Int32 => some (.int x))) (ini := false) [.ref v0, .int v1] (by decide) (by simp [gx_sl]) (fun q => by cases q) (geX0_linkOn v0 v1 h) q
theorem dX0_isHome_0 : decode cX0_isHome 0 = .ok (.aload_n 0, 1) := by decide +kernel
theorem dX0_isHome_1 : decode cX0_isHome 1 = .ok (.getfield 40, 3) := by decide +kernel
theorem dX0_isHome_4 : decode cX0_isHome 4 = .ok (.iload_n 1, 1) := by decide +kernel
theorem dX0_isHome_5 : decode cX0_isHome 5 = .ok (.iaload, 1) := by decide +kernel
theorem dX0_isHome_6 : decode cX0_isHome 6 = .ok (.aload_n 0, 1) := by decide +kernel
theorem dX0_isHome_7 : decode cX0_isHome 7 = .ok (.getfield 9, 3) := by decide +kernel
theorem dX0_isHome_10 : decode cX0_isHome 10 = .ok (.if_icmp .ne 7, 3) := by decide +kernel
theorem dX0_isHome_13 : decode cX0_isHome 13 = .ok (.iconst 1, 1) := by decide +kernel
theorem dX0_isHome_14 : decode cX0_isHome 14 = .ok (.goto 4, 3) := by decide +kernel
theorem dX0_isHome_17 : decode cX0_isHome 17 = .ok (.iconst 0, 1) := by decide +kernel
theorem dX0_isHome_18 : decode cX0_isHome 18 = .ok (.ireturn, 1) := by decide +kernel
def fX0_isHome_18 (s0 : Int32) (h : gx_H) : Option (Int32 × gx_H) :=
  gx_ret .boolean s0 h
def fX0_isHome (v0 : Nat) (v1 : Int32) (h : gx_H) : Option (Int32 × gx_H) :=
  (gx_isO h v0 0).bind fun _ =>
  (gx_fR h v0 0 9).bind fun a1 =>
  (gx_aI 0 h a1 v1).bind fun x2 =>
  (gx_fI h v0 0 0).bind fun x3 =>
  if x2 = x3 then
    fX0_isHome_18 (1 : Int32) h
  else
    fX0_isHome_18 (0 : Int32) h
set_option maxRecDepth 100000 in
set_option maxHeartbeats 4000000 in
theorem gX0_isHome_18 {E : gx_Env} {d : Nat}  : ∀ (s0 : Int32) (h : gx_H), gx_G E RX0 cX0_isHome 2 (some .boolean) false d 0 0 18 [none, none] [.int s0] h (fun x : Int32 => some (.int x)) (fX0_isHome_18 s0 h) := by
  intro s0 h
  unfold fX0_isHome_18
  exact gx_zret dX0_isHome_18 rfl
set_option maxRecDepth 100000 in
set_option maxHeartbeats 4000000 in
theorem geX0_isHome {E : gx_Env} {d : Nat} (v0 : Nat) (v1 : Int32) (h : gx_H) : gx_G E RX0 cX0_isHome 2 (some .boolean) false d 0 0 0 [some (.ref v0), some (.int v1)] [] h (fun x : Int32 => some (.int x)) (fX0_isHome v0 v1 h) := by
  unfold fX0_isHome
  refine gx_bind fun _ _ => ?_
  refine gx_aload_n 0 dX0_isHome_0 rfl rfl ?_
  refine gx_getR kf_RX0_40 dX0_isHome_1 (fun a1 => ?_)
  refine gx_iload_n 1 dX0_isHome_4 rfl rfl ?_
  refine gx_iald dX0_isHome_5 (fun x2 => ?_)
  refine gx_aload_n 0 dX0_isHome_6 rfl rfl ?_
  refine gx_getI kf_RX0_9 dX0_isHome_7 (fun x3 => ?_)
  refine gx_icmp_ne 17 dX0_isHome_10 (by decide) (fun _ => ?_) (fun _ => ?_)
  · refine gx_iconst (0 : Int32) dX0_isHome_17 (by decide) ?_
    exact gx_sub (gX0_isHome_18 (0 : Int32) h) True.intro
  · refine gx_iconst (1 : Int32) dX0_isHome_13 (by decide) ?_
    refine gx_goto 18 dX0_isHome_14 (by decide) ?_
    exact gx_sub (gX0_isHome_18 (1 : Int32) h) True.intro
theorem okX0_isHome {E : gx_Env} (d : Nat) {v0 : Nat} {v1 : Int32} {h : gx_H} {r : Int32} {h1 : gx_H} (q : fX0_isHome v0 v1 h = some (r, h1)) : gx_M E yX0_isHome cX0_isHome 2 (some .boolean) d 0 0 [.ref v0, .int v1] h ((fun x : Int32 => some (.int x)) r) h1 := gx_meth (y := yX0_isHome) (cc := cX0_isHome) (nL := 2) (em := (fun x : Int32 => some (.int x))) (ini := false) [.ref v0, .int v1] (by decide) (by simp [gx_sl]) (fun q => by cases q) (geX0_isHome v0 v1 h) q
theorem dX0_homes_0 : decode cX0_homes 0 = .ok (.iconst 0, 1) := by decide +kernel
theorem dX0_homes_1 : decode cX0_homes 1 = .ok (.istore_n 1, 1) := by decide +kernel
theorem dX0_homes_2 : decode cX0_homes 2 = .ok (.iconst 0, 1) := by decide +kernel
theorem dX0_homes_3 : decode cX0_homes 3 = .ok (.istore_n 2, 1) := by decide +kernel
theorem dX0_homes_4 : decode cX0_homes 4 = .ok (.iload_n 2, 1) := by decide +kernel
theorem dX0_homes_5 : decode cX0_homes 5 = .ok (.aload_n 0, 1) := by decide +kernel
theorem dX0_homes_6 : decode cX0_homes 6 = .ok (.getfield 21, 3) := by decide +kernel
theorem dX0_homes_9 : decode cX0_homes 9 = .ok (.if_icmp .ge 20, 3) := by decide +kernel
theorem dX0_homes_12 : decode cX0_homes 12 = .ok (.aload_n 0, 1) := by decide +kernel
theorem dX0_homes_13 : decode cX0_homes 13 = .ok (.iload_n 2, 1) := by decide +kernel
theorem dX0_homes_14 : decode cX0_homes 14 = .ok (.invokevirtual 46, 3) := by decide +kernel
theorem dX0_homes_17 : decode cX0_homes 17 = .ok (.ifCond .eq 6, 3) := by decide +kernel
theorem dX0_homes_20 : decode cX0_homes 20 = .ok (.iinc 1 1, 3) := by decide +kernel
theorem dX0_homes_23 : decode cX0_homes 23 = .ok (.iinc 2 1, 3) := by decide +kernel
theorem dX0_homes_26 : decode cX0_homes 26 = .ok (.goto (-22), 3) := by decide +kernel
theorem dX0_homes_29 : decode cX0_homes 29 = .ok (.iload_n 1, 1) := by decide +kernel
theorem dX0_homes_30 : decode cX0_homes 30 = .ok (.ireturn, 1) := by decide +kernel
def fX0_homes_23 (k4 : Nat → Int32 → Int32 → gx_H → Option (Int32 × gx_H)) (v0 : Nat) (v1 : Int32) (v2 : Int32) (h : gx_H) : Option (Int32 × gx_H) :=
  k4 v0 v1 (v2 + (1 : Int32)) h
def bX0_homes_4 (k4 : Nat → Int32 → Int32 → gx_H → Option (Int32 × gx_H)) (v0 : Nat) (v1 : Int32) (v2 : Int32) (h : gx_H) : Option (Int32 × gx_H) :=
  (gx_fI h v0 0 3).bind fun x1 =>
  if x1 ≤ v2 then
    some (v1, h)
  else
    gx_bd (fX0_isHome v0 v2 h) fun x3 h2 =>
    if x3 = 0 then
      fX0_homes_23 k4 v0 v1 v2 h2
    else
      fX0_homes_23 k4 v0 (v1 + (1 : Int32)) v2 h2
def fX0_homes_4 : Nat → Nat → Int32 → Int32 → gx_H → Option (Int32 × gx_H)
  | 0 => fun _ _ _ _ => none
  | n + 1 => bX0_homes_4 (fX0_homes_4 n)
def fX0_homes (v0 : Nat) (h : gx_H) : Option (Int32 × gx_H) :=
  (gx_isO h v0 0).bind fun _ =>
  fX0_homes_4 gx_N v0 (0 : Int32) (0 : Int32) h
set_option maxRecDepth 100000 in
set_option maxHeartbeats 4000000 in
theorem gX0_homes_23 {E : gx_Env} {d : Nat} (k4 : Nat → Int32 → Int32 → gx_H → Option (Int32 × gx_H)) (hk4 : ∀ (v0 : Nat) (v1 : Int32) (v2 : Int32) (h : gx_H), gx_G E RX0 cX0_homes 3 (some .int) false (d + 1) 0 0 4 [some (.ref v0), some (.int v1), some (.int v2)] [] h (fun x : Int32 => some (.int x)) (k4 v0 v1 v2 h))  : ∀ (v0 : Nat) (v1 : Int32) (v2 : Int32) (h : gx_H), gx_G E RX0 cX0_homes 3 (some .int) false (d + 1) 0 0 23 [some (.ref v0), some (.int v1), some (.int v2)] [] h (fun x : Int32 => some (.int x)) (fX0_homes_23 k4 v0 v1 v2 h) := by
  intro v0 v1 v2 h
  unfold fX0_homes_23
  refine gx_iinc (1 : Int32) [some (.ref v0), some (.int v1), some (.int (v2 + (1 : Int32)))] dX0_homes_23 rfl (by decide) (by decide) rfl ?_
  refine gx_goto 4 dX0_homes_26 (by decide) ?_
  exact gx_sub (hk4 v0 v1 (v2 + (1 : Int32)) h) (And.intro rfl (And.intro rfl (And.intro rfl True.intro)))
set_option maxRecDepth 100000 in
set_option maxHeartbeats 4000000 in
theorem gbX0_homes_4 {E : gx_Env} {d : Nat}  (k4 : Nat → Int32 → Int32 → gx_H → Option (Int32 × gx_H)) (hk4 : ∀ (v0 : Nat) (v1 : Int32) (v2 : Int32) (h : gx_H), gx_G E RX0 cX0_homes 3 (some .int) false (d + 1) 0 0 4 [some (.ref v0), some (.int v1), some (.int v2)] [] h (fun x : Int32 => some (.int x)) (k4 v0 v1 v2 h))  : ∀ (v0 : Nat) (v1 : Int32) (v2 : Int32) (h : gx_H), gx_G E RX0 cX0_homes 3 (some .int) false (d + 1) 0 0 4 [some (.ref v0), some (.int v1), some (.int v2)] [] h (fun x : Int32 => some (.int x)) (bX0_homes_4 k4 v0 v1 v2 h) := by
  intro v0 v1 v2 h
  unfold bX0_homes_4
  refine gx_iload_n 2 dX0_homes_4 rfl rfl ?_
  refine gx_aload_n 0 dX0_homes_5 rfl rfl ?_
  refine gx_getI kf_RX0_21 dX0_homes_6 (fun x1 => ?_)
  refine gx_icmp_ge 29 dX0_homes_9 (by decide) (fun _ => ?_) (fun _ => ?_)
  · refine gx_iload_n 1 dX0_homes_29 rfl rfl ?_
    exact gx_iret dX0_homes_30 rfl
  · refine gx_aload_n 0 dX0_homes_12 rfl rfl ?_
    refine gx_iload_n 2 dX0_homes_13 rfl rfl ?_
    refine gx_callV (ci := 0) (bc := 0) (bs := 0) (mc := 0) (ms := 0) (em' := (fun x : Int32 => some (.int x))) [.int v2] kc_RX0_46 rfl dX0_homes_14 rfl rfl (gx_w8 rfl) (fun x q => (gx_isO_of (by unfold fX0_isHome at q; exact q)).2) (fun _ _ q => okX0_isHome d q) (fun x3 h2 => ?_)
    refine gx_if_eq 23 dX0_homes_17 (by decide) (fun _ => ?_) (fun _ => ?_)
    · exact gx_sub (gX0_homes_23 k4 hk4 v0 v1 v2 h2) (And.intro rfl (And.intro rfl (And.intro rfl True.intro)))
    · refine gx_iinc (1 : Int32) [some (.ref v0), some (.int (v1 + (1 : Int32))), some (.int v2)] dX0_homes_20 rfl (by decide) (by decide) rfl ?_
      exact gx_sub (gX0_homes_23 k4 hk4 v0 (v1 + (1 : Int32)) v2 h2) (And.intro rfl (And.intro rfl (And.intro rfl True.intro)))
set_option maxRecDepth 100000 in
set_option maxHeartbeats 4000000 in
theorem gX0_homes_4 {E : gx_Env} {d : Nat}  : ∀ (n : Nat) (v0 : Nat) (v1 : Int32) (v2 : Int32) (h : gx_H), gx_G E RX0 cX0_homes 3 (some .int) false (d + 1) 0 0 4 [some (.ref v0), some (.int v1), some (.int v2)] [] h (fun x : Int32 => some (.int x)) (fX0_homes_4 n v0 v1 v2 h) := by
  intro n
  induction n with
  | zero => intro v0 v1 v2 h; exact gx_none
  | succ n ih => exact gbX0_homes_4  (fX0_homes_4  n) ih
set_option maxRecDepth 100000 in
set_option maxHeartbeats 4000000 in
theorem geX0_homes {E : gx_Env} {d : Nat} (v0 : Nat) (h : gx_H) : gx_G E RX0 cX0_homes 3 (some .int) false (d + 1) 0 0 0 [some (.ref v0), none, none] [] h (fun x : Int32 => some (.int x)) (fX0_homes v0 h) := by
  unfold fX0_homes
  refine gx_bind fun _ _ => ?_
  refine gx_iconst (0 : Int32) dX0_homes_0 (by decide) ?_
  refine gx_istore_n 1 [some (.ref v0), some (.int (0 : Int32)), none] dX0_homes_1 rfl (by decide) rfl ?_
  refine gx_iconst (0 : Int32) dX0_homes_2 (by decide) ?_
  refine gx_istore_n 2 [some (.ref v0), some (.int (0 : Int32)), some (.int (0 : Int32))] dX0_homes_3 rfl (by decide) rfl ?_
  exact gx_sub (gX0_homes_4 gx_N v0 (0 : Int32) (0 : Int32) h) (And.intro rfl (And.intro rfl (And.intro rfl True.intro)))
theorem okX0_homes {E : gx_Env} (d : Nat) {v0 : Nat} {h : gx_H} {r : Int32} {h1 : gx_H} (q : fX0_homes v0 h = some (r, h1)) : gx_M E yX0_homes cX0_homes 3 (some .int) (d + 1) 0 0 [.ref v0] h ((fun x : Int32 => some (.int x)) r) h1 := gx_meth (y := yX0_homes) (cc := cX0_homes) (nL := 3) (em := (fun x : Int32 => some (.int x))) (ini := false) [.ref v0] (by decide) (by simp [gx_sl]) (fun q => by cases q) (geX0_homes v0 h) q
theorem dX0_thrownByAll_0 : decode cX0_thrownByAll 0 = .ok (.iconst 0, 1) := by decide +kernel
theorem dX0_thrownByAll_1 : decode cX0_thrownByAll 1 = .ok (.istore_n 1, 1) := by decide +kernel
theorem dX0_thrownByAll_2 : decode cX0_thrownByAll 2 = .ok (.iconst 0, 1) := by decide +kernel
theorem dX0_thrownByAll_3 : decode cX0_thrownByAll 3 = .ok (.istore_n 2, 1) := by decide +kernel
theorem dX0_thrownByAll_4 : decode cX0_thrownByAll 4 = .ok (.iload_n 2, 1) := by decide +kernel
theorem dX0_thrownByAll_5 : decode cX0_thrownByAll 5 = .ok (.aload_n 0, 1) := by decide +kernel
theorem dX0_thrownByAll_6 : decode cX0_thrownByAll 6 = .ok (.getfield 21, 3) := by decide +kernel
theorem dX0_thrownByAll_9 : decode cX0_thrownByAll 9 = .ok (.if_icmp .ge 18, 3) := by decide +kernel
theorem dX0_thrownByAll_12 : decode cX0_thrownByAll 12 = .ok (.iload_n 1, 1) := by decide +kernel
theorem dX0_thrownByAll_13 : decode cX0_thrownByAll 13 = .ok (.aload_n 0, 1) := by decide +kernel
theorem dX0_thrownByAll_14 : decode cX0_thrownByAll 14 = .ok (.getfield 43, 3) := by decide +kernel
theorem dX0_thrownByAll_17 : decode cX0_thrownByAll 17 = .ok (.iload_n 2, 1) := by decide +kernel
theorem dX0_thrownByAll_18 : decode cX0_thrownByAll 18 = .ok (.iaload, 1) := by decide +kernel
theorem dX0_thrownByAll_19 : decode cX0_thrownByAll 19 = .ok (.iadd, 1) := by decide +kernel
theorem dX0_thrownByAll_20 : decode cX0_thrownByAll 20 = .ok (.istore_n 1, 1) := by decide +kernel
theorem dX0_thrownByAll_21 : decode cX0_thrownByAll 21 = .ok (.iinc 2 1, 3) := by decide +kernel
theorem dX0_thrownByAll_24 : decode cX0_thrownByAll 24 = .ok (.goto (-20), 3) := by decide +kernel
theorem dX0_thrownByAll_27 : decode cX0_thrownByAll 27 = .ok (.iload_n 1, 1) := by decide +kernel
theorem dX0_thrownByAll_28 : decode cX0_thrownByAll 28 = .ok (.ireturn, 1) := by decide +kernel
def bX0_thrownByAll_4 (k4 : Nat → Int32 → Int32 → gx_H → Option (Int32 × gx_H)) (v0 : Nat) (v1 : Int32) (v2 : Int32) (h : gx_H) : Option (Int32 × gx_H) :=
  (gx_fI h v0 0 3).bind fun x1 =>
  if x1 ≤ v2 then
    some (v1, h)
  else
    (gx_fR h v0 0 10).bind fun a2 =>
    (gx_aI 0 h a2 v2).bind fun x3 =>
    k4 v0 (v1 + x3) (v2 + (1 : Int32)) h
def fX0_thrownByAll_4 : Nat → Nat → Int32 → Int32 → gx_H → Option (Int32 × gx_H)
  | 0 => fun _ _ _ _ => none
  | n + 1 => bX0_thrownByAll_4 (fX0_thrownByAll_4 n)
def fX0_thrownByAll (v0 : Nat) (h : gx_H) : Option (Int32 × gx_H) :=
  (gx_isO h v0 0).bind fun _ =>
  fX0_thrownByAll_4 gx_N v0 (0 : Int32) (0 : Int32) h
set_option maxRecDepth 100000 in
set_option maxHeartbeats 4000000 in
theorem gbX0_thrownByAll_4 {E : gx_Env} {d : Nat}  (k4 : Nat → Int32 → Int32 → gx_H → Option (Int32 × gx_H)) (hk4 : ∀ (v0 : Nat) (v1 : Int32) (v2 : Int32) (h : gx_H), gx_G E RX0 cX0_thrownByAll 3 (some .int) false d 0 0 4 [some (.ref v0), some (.int v1), some (.int v2)] [] h (fun x : Int32 => some (.int x)) (k4 v0 v1 v2 h))  : ∀ (v0 : Nat) (v1 : Int32) (v2 : Int32) (h : gx_H), gx_G E RX0 cX0_thrownByAll 3 (some .int) false d 0 0 4 [some (.ref v0), some (.int v1), some (.int v2)] [] h (fun x : Int32 => some (.int x)) (bX0_thrownByAll_4 k4 v0 v1 v2 h) := by
  intro v0 v1 v2 h
  unfold bX0_thrownByAll_4
  refine gx_iload_n 2 dX0_thrownByAll_4 rfl rfl ?_
  refine gx_aload_n 0 dX0_thrownByAll_5 rfl rfl ?_
  refine gx_getI kf_RX0_21 dX0_thrownByAll_6 (fun x1 => ?_)
  refine gx_icmp_ge 27 dX0_thrownByAll_9 (by decide) (fun _ => ?_) (fun _ => ?_)
  · refine gx_iload_n 1 dX0_thrownByAll_27 rfl rfl ?_
    exact gx_iret dX0_thrownByAll_28 rfl
  · refine gx_iload_n 1 dX0_thrownByAll_12 rfl rfl ?_
    refine gx_aload_n 0 dX0_thrownByAll_13 rfl rfl ?_
    refine gx_getR kf_RX0_43 dX0_thrownByAll_14 (fun a2 => ?_)
    refine gx_iload_n 2 dX0_thrownByAll_17 rfl rfl ?_
    refine gx_iald dX0_thrownByAll_18 (fun x3 => ?_)
    refine gx_iadd dX0_thrownByAll_19 ?_
    refine gx_istore_n 1 [some (.ref v0), some (.int (v1 + x3)), some (.int v2)] dX0_thrownByAll_20 rfl (by decide) rfl ?_
    refine gx_iinc (1 : Int32) [some (.ref v0), some (.int (v1 + x3)), some (.int (v2 + (1 : Int32)))] dX0_thrownByAll_21 rfl (by decide) (by decide) rfl ?_
    refine gx_goto 4 dX0_thrownByAll_24 (by decide) ?_
    exact gx_sub (hk4 v0 (v1 + x3) (v2 + (1 : Int32)) h) (And.intro rfl (And.intro rfl (And.intro rfl True.intro)))
set_option maxRecDepth 100000 in
set_option maxHeartbeats 4000000 in
theorem gX0_thrownByAll_4 {E : gx_Env} {d : Nat}  : ∀ (n : Nat) (v0 : Nat) (v1 : Int32) (v2 : Int32) (h : gx_H), gx_G E RX0 cX0_thrownByAll 3 (some .int) false d 0 0 4 [some (.ref v0), some (.int v1), some (.int v2)] [] h (fun x : Int32 => some (.int x)) (fX0_thrownByAll_4 n v0 v1 v2 h) := by
  intro n
  induction n with
  | zero => intro v0 v1 v2 h; exact gx_none
  | succ n ih => exact gbX0_thrownByAll_4  (fX0_thrownByAll_4  n) ih
set_option maxRecDepth 100000 in
set_option maxHeartbeats 4000000 in
theorem geX0_thrownByAll {E : gx_Env} {d : Nat} (v0 : Nat) (h : gx_H) : gx_G E RX0 cX0_thrownByAll 3 (some .int) false d 0 0 0 [some (.ref v0), none, none] [] h (fun x : Int32 => some (.int x)) (fX0_thrownByAll v0 h) := by
  unfold fX0_thrownByAll
  refine gx_bind fun _ _ => ?_
  refine gx_iconst (0 : Int32) dX0_thrownByAll_0 (by decide) ?_
  refine gx_istore_n 1 [some (.ref v0), some (.int (0 : Int32)), none] dX0_thrownByAll_1 rfl (by decide) rfl ?_
  refine gx_iconst (0 : Int32) dX0_thrownByAll_2 (by decide) ?_
  refine gx_istore_n 2 [some (.ref v0), some (.int (0 : Int32)), some (.int (0 : Int32))] dX0_thrownByAll_3 rfl (by decide) rfl ?_
  exact gx_sub (gX0_thrownByAll_4 gx_N v0 (0 : Int32) (0 : Int32) h) (And.intro rfl (And.intro rfl (And.intro rfl True.intro)))
theorem okX0_thrownByAll {E : gx_Env} (d : Nat) {v0 : Nat} {h : gx_H} {r : Int32} {h1 : gx_H} (q : fX0_thrownByAll v0 h = some (r, h1)) : gx_M E yX0_thrownByAll cX0_thrownByAll 3 (some .int) d 0 0 [.ref v0] h ((fun x : Int32 => some (.int x)) r) h1 := gx_meth (y := yX0_thrownByAll) (cc := cX0_thrownByAll) (nL := 3) (em := (fun x : Int32 => some (.int x))) (ini := false) [.ref v0] (by decide) (by simp [gx_sl]) (fun q => by cases q) (geX0_thrownByAll v0 h) q
theorem dX0_usedOfAll_0 : decode cX0_usedOfAll 0 = .ok (.iconst 0, 1) := by decide +kernel
theorem dX0_usedOfAll_1 : decode cX0_usedOfAll 1 = .ok (.istore_n 1, 1) := by decide +kernel
theorem dX0_usedOfAll_2 : decode cX0_usedOfAll 2 = .ok (.iconst 0, 1) := by decide +kernel
theorem dX0_usedOfAll_3 : decode cX0_usedOfAll 3 = .ok (.istore_n 2, 1) := by decide +kernel
theorem dX0_usedOfAll_4 : decode cX0_usedOfAll 4 = .ok (.iload_n 2, 1) := by decide +kernel
theorem dX0_usedOfAll_5 : decode cX0_usedOfAll 5 = .ok (.aload_n 0, 1) := by decide +kernel
theorem dX0_usedOfAll_6 : decode cX0_usedOfAll 6 = .ok (.getfield 18, 3) := by decide +kernel
theorem dX0_usedOfAll_9 : decode cX0_usedOfAll 9 = .ok (.if_icmp .ge 18, 3) := by decide +kernel
theorem dX0_usedOfAll_12 : decode cX0_usedOfAll 12 = .ok (.iload_n 1, 1) := by decide +kernel
theorem dX0_usedOfAll_13 : decode cX0_usedOfAll 13 = .ok (.aload_n 0, 1) := by decide +kernel
theorem dX0_usedOfAll_14 : decode cX0_usedOfAll 14 = .ok (.getfield 34, 3) := by decide +kernel
theorem dX0_usedOfAll_17 : decode cX0_usedOfAll 17 = .ok (.iload_n 2, 1) := by decide +kernel
theorem dX0_usedOfAll_18 : decode cX0_usedOfAll 18 = .ok (.iaload, 1) := by decide +kernel
theorem dX0_usedOfAll_19 : decode cX0_usedOfAll 19 = .ok (.iadd, 1) := by decide +kernel
theorem dX0_usedOfAll_20 : decode cX0_usedOfAll 20 = .ok (.istore_n 1, 1) := by decide +kernel
theorem dX0_usedOfAll_21 : decode cX0_usedOfAll 21 = .ok (.iinc 2 1, 3) := by decide +kernel
theorem dX0_usedOfAll_24 : decode cX0_usedOfAll 24 = .ok (.goto (-20), 3) := by decide +kernel
theorem dX0_usedOfAll_27 : decode cX0_usedOfAll 27 = .ok (.iload_n 1, 1) := by decide +kernel
theorem dX0_usedOfAll_28 : decode cX0_usedOfAll 28 = .ok (.ireturn, 1) := by decide +kernel
def bX0_usedOfAll_4 (k4 : Nat → Int32 → Int32 → gx_H → Option (Int32 × gx_H)) (v0 : Nat) (v1 : Int32) (v2 : Int32) (h : gx_H) : Option (Int32 × gx_H) :=
  (gx_fI h v0 0 2).bind fun x1 =>
  if x1 ≤ v2 then
    some (v1, h)
  else
    (gx_fR h v0 0 7).bind fun a2 =>
    (gx_aI 0 h a2 v2).bind fun x3 =>
    k4 v0 (v1 + x3) (v2 + (1 : Int32)) h
def fX0_usedOfAll_4 : Nat → Nat → Int32 → Int32 → gx_H → Option (Int32 × gx_H)
  | 0 => fun _ _ _ _ => none
  | n + 1 => bX0_usedOfAll_4 (fX0_usedOfAll_4 n)
def fX0_usedOfAll (v0 : Nat) (h : gx_H) : Option (Int32 × gx_H) :=
  (gx_isO h v0 0).bind fun _ =>
  fX0_usedOfAll_4 gx_N v0 (0 : Int32) (0 : Int32) h
set_option maxRecDepth 100000 in
set_option maxHeartbeats 4000000 in
theorem gbX0_usedOfAll_4 {E : gx_Env} {d : Nat}  (k4 : Nat → Int32 → Int32 → gx_H → Option (Int32 × gx_H)) (hk4 : ∀ (v0 : Nat) (v1 : Int32) (v2 : Int32) (h : gx_H), gx_G E RX0 cX0_usedOfAll 3 (some .int) false d 0 0 4 [some (.ref v0), some (.int v1), some (.int v2)] [] h (fun x : Int32 => some (.int x)) (k4 v0 v1 v2 h))  : ∀ (v0 : Nat) (v1 : Int32) (v2 : Int32) (h : gx_H), gx_G E RX0 cX0_usedOfAll 3 (some .int) false d 0 0 4 [some (.ref v0), some (.int v1), some (.int v2)] [] h (fun x : Int32 => some (.int x)) (bX0_usedOfAll_4 k4 v0 v1 v2 h) := by
  intro v0 v1 v2 h
  unfold bX0_usedOfAll_4
  refine gx_iload_n 2 dX0_usedOfAll_4 rfl rfl ?_
  refine gx_aload_n 0 dX0_usedOfAll_5 rfl rfl ?_
  refine gx_getI kf_RX0_18 dX0_usedOfAll_6 (fun x1 => ?_)
  refine gx_icmp_ge 27 dX0_usedOfAll_9 (by decide) (fun _ => ?_) (fun _ => ?_)
  · refine gx_iload_n 1 dX0_usedOfAll_27 rfl rfl ?_
    exact gx_iret dX0_usedOfAll_28 rfl
  · refine gx_iload_n 1 dX0_usedOfAll_12 rfl rfl ?_
    refine gx_aload_n 0 dX0_usedOfAll_13 rfl rfl ?_
    refine gx_getR kf_RX0_34 dX0_usedOfAll_14 (fun a2 => ?_)
    refine gx_iload_n 2 dX0_usedOfAll_17 rfl rfl ?_
    refine gx_iald dX0_usedOfAll_18 (fun x3 => ?_)
    refine gx_iadd dX0_usedOfAll_19 ?_
    refine gx_istore_n 1 [some (.ref v0), some (.int (v1 + x3)), some (.int v2)] dX0_usedOfAll_20 rfl (by decide) rfl ?_
    refine gx_iinc (1 : Int32) [some (.ref v0), some (.int (v1 + x3)), some (.int (v2 + (1 : Int32)))] dX0_usedOfAll_21 rfl (by decide) (by decide) rfl ?_
    refine gx_goto 4 dX0_usedOfAll_24 (by decide) ?_
    exact gx_sub (hk4 v0 (v1 + x3) (v2 + (1 : Int32)) h) (And.intro rfl (And.intro rfl (And.intro rfl True.intro)))
set_option maxRecDepth 100000 in
set_option maxHeartbeats 4000000 in
theorem gX0_usedOfAll_4 {E : gx_Env} {d : Nat}  : ∀ (n : Nat) (v0 : Nat) (v1 : Int32) (v2 : Int32) (h : gx_H), gx_G E RX0 cX0_usedOfAll 3 (some .int) false d 0 0 4 [some (.ref v0), some (.int v1), some (.int v2)] [] h (fun x : Int32 => some (.int x)) (fX0_usedOfAll_4 n v0 v1 v2 h) := by
  intro n
  induction n with
  | zero => intro v0 v1 v2 h; exact gx_none
  | succ n ih => exact gbX0_usedOfAll_4  (fX0_usedOfAll_4  n) ih
set_option maxRecDepth 100000 in
set_option maxHeartbeats 4000000 in
theorem geX0_usedOfAll {E : gx_Env} {d : Nat} (v0 : Nat) (h : gx_H) : gx_G E RX0 cX0_usedOfAll 3 (some .int) false d 0 0 0 [some (.ref v0), none, none] [] h (fun x : Int32 => some (.int x)) (fX0_usedOfAll v0 h) := by
  unfold fX0_usedOfAll
  refine gx_bind fun _ _ => ?_
  refine gx_iconst (0 : Int32) dX0_usedOfAll_0 (by decide) ?_
  refine gx_istore_n 1 [some (.ref v0), some (.int (0 : Int32)), none] dX0_usedOfAll_1 rfl (by decide) rfl ?_
  refine gx_iconst (0 : Int32) dX0_usedOfAll_2 (by decide) ?_
  refine gx_istore_n 2 [some (.ref v0), some (.int (0 : Int32)), some (.int (0 : Int32))] dX0_usedOfAll_3 rfl (by decide) rfl ?_
  exact gx_sub (gX0_usedOfAll_4 gx_N v0 (0 : Int32) (0 : Int32) h) (And.intro rfl (And.intro rfl (And.intro rfl True.intro)))
theorem okX0_usedOfAll {E : gx_Env} (d : Nat) {v0 : Nat} {h : gx_H} {r : Int32} {h1 : gx_H} (q : fX0_usedOfAll v0 h = some (r, h1)) : gx_M E yX0_usedOfAll cX0_usedOfAll 3 (some .int) d 0 0 [.ref v0] h ((fun x : Int32 => some (.int x)) r) h1 := gx_meth (y := yX0_usedOfAll) (cc := cX0_usedOfAll) (nL := 3) (em := (fun x : Int32 => some (.int x))) (ini := false) [.ref v0] (by decide) (by simp [gx_sl]) (fun q => by cases q) (geX0_usedOfAll v0 h) q
theorem dX0_linkMet_0 : decode cX0_linkMet 0 = .ok (.iload_n 2, 1) := by decide +kernel
theorem dX0_linkMet_1 : decode cX0_linkMet 1 = .ok (.aload_n 0, 1) := by decide +kernel
theorem dX0_linkMet_2 : decode cX0_linkMet 2 = .ok (.getfield 40, 3) := by decide +kernel
theorem dX0_linkMet_5 : decode cX0_linkMet 5 = .ok (.iload_n 1, 1) := by decide +kernel
theorem dX0_linkMet_6 : decode cX0_linkMet 6 = .ok (.iaload, 1) := by decide +kernel
theorem dX0_linkMet_7 : decode cX0_linkMet 7 = .ok (.if_icmp .ne 7, 3) := by decide +kernel
theorem dX0_linkMet_10 : decode cX0_linkMet 10 = .ok (.iconst (-1), 1) := by decide +kernel
theorem dX0_linkMet_11 : decode cX0_linkMet 11 = .ok (.goto 8, 3) := by decide +kernel
theorem dX0_linkMet_14 : decode cX0_linkMet 14 = .ok (.aload_n 0, 1) := by decide +kernel
theorem dX0_linkMet_15 : decode cX0_linkMet 15 = .ok (.iload_n 2, 1) := by decide +kernel
theorem dX0_linkMet_16 : decode cX0_linkMet 16 = .ok (.invokevirtual 85, 3) := by decide +kernel
theorem dX0_linkMet_19 : decode cX0_linkMet 19 = .ok (.ireturn, 1) := by decide +kernel
def fX0_linkMet_19 (s0 : Int32) (h : gx_H) : Option (Int32 × gx_H) :=
  some (s0, h)
def fX0_linkMet (v0 : Nat) (v1 : Int32) (v2 : Int32) (h : gx_H) : Option (Int32 × gx_H) :=
  (gx_isO h v0 0).bind fun _ =>
  (gx_fR h v0 0 9).bind fun a1 =>
  (gx_aI 0 h a1 v1).bind fun x2 =>
  if v2 = x2 then
    fX0_linkMet_19 (-1 : Int32) h
  else
    gx_bd (fX0_linkOn v0 v2 h) fun x4 h3 =>
    fX0_linkMet_19 x4 h3
set_option maxRecDepth 100000 in
set_option maxHeartbeats 4000000 in
theorem gX0_linkMet_19 {E : gx_Env} {d : Nat}  : ∀ (s0 : Int32) (h : gx_H), gx_G E RX0 cX0_linkMet 3 (some .int) false (d + 1) 0 0 19 [none, none, none] [.int s0] h (fun x : Int32 => some (.int x)) (fX0_linkMet_19 s0 h) := by
  intro s0 h
  unfold fX0_linkMet_19
  exact gx_iret dX0_linkMet_19 rfl
set_option maxRecDepth 100000 in
set_option maxHeartbeats 4000000 in
theorem geX0_linkMet {E : gx_Env} {d : Nat} (v0 : Nat) (v1 : Int32) (v2 : Int32) (h : gx_H) : gx_G E RX0 cX0_linkMet 3 (some .int) false (d + 1) 0 0 0 [some (.ref v0), some (.int v1), some (.int v2)] [] h (fun x : Int32 => some (.int x)) (fX0_linkMet v0 v1 v2 h) := by
  unfold fX0_linkMet
  refine gx_bind fun _ _ => ?_
  refine gx_iload_n 2 dX0_linkMet_0 rfl rfl ?_
  refine gx_aload_n 0 dX0_linkMet_1 rfl rfl ?_
  refine gx_getR kf_RX0_40 dX0_linkMet_2 (fun a1 => ?_)
  refine gx_iload_n 1 dX0_linkMet_5 rfl rfl ?_
  refine gx_iald dX0_linkMet_6 (fun x2 => ?_)
  refine gx_icmp_ne 14 dX0_linkMet_7 (by decide) (fun _ => ?_) (fun _ => ?_)
  · refine gx_aload_n 0 dX0_linkMet_14 rfl rfl ?_
    refine gx_iload_n 2 dX0_linkMet_15 rfl rfl ?_
    refine gx_callV (ci := 0) (bc := 0) (bs := 0) (mc := 0) (ms := 0) (em' := (fun x : Int32 => some (.int x))) [.int v2] kc_RX0_85 rfl dX0_linkMet_16 rfl rfl (gx_w8 rfl) (fun x q => (gx_isO_of (by unfold fX0_linkOn at q; exact q)).2) (fun _ _ q => okX0_linkOn d q) (fun x4 h3 => ?_)
    exact gx_sub (gX0_linkMet_19 x4 h3) True.intro
  · refine gx_iconst (-1 : Int32) dX0_linkMet_10 (by decide) ?_
    refine gx_goto 19 dX0_linkMet_11 (by decide) ?_
    exact gx_sub (gX0_linkMet_19 (-1 : Int32) h) True.intro
theorem okX0_linkMet {E : gx_Env} (d : Nat) {v0 : Nat} {v1 : Int32} {v2 : Int32} {h : gx_H} {r : Int32} {h1 : gx_H} (q : fX0_linkMet v0 v1 v2 h = some (r, h1)) : gx_M E yX0_linkMet cX0_linkMet 3 (some .int) (d + 1) 0 0 [.ref v0, .int v1, .int v2] h ((fun x : Int32 => some (.int x)) r) h1 := gx_meth (y := yX0_linkMet) (cc := cX0_linkMet) (nL := 3) (em := (fun x : Int32 => some (.int x))) (ini := false) [.ref v0, .int v1, .int v2] (by decide) (by simp [gx_sl]) (fun q => by cases q) (geX0_linkMet v0 v1 v2 h) q
theorem dX4_square_0 : decode cX4_square 0 = .ok (.iload_n 0, 1) := by decide +kernel
theorem dX4_square_1 : decode cX4_square 1 = .ok (.tableswitch 90 1 5 #[35, 48, 56, 67, 77], 35) := by decide +kernel
theorem dX4_square_36 : decode cX4_square 36 = .ok (.iload_n 3, 1) := by decide +kernel
theorem dX4_square_37 : decode cX4_square 37 = .ok (.iconst 2, 1) := by decide +kernel
theorem dX4_square_38 : decode cX4_square 38 = .ok (.irem, 1) := by decide +kernel
theorem dX4_square_39 : decode cX4_square 39 = .ok (.iconst 1, 1) := by decide +kernel
theorem dX4_square_40 : decode cX4_square 40 = .ok (.if_icmp .ne 7, 3) := by decide +kernel
theorem dX4_square_43 : decode cX4_square 43 = .ok (.iload_n 1, 1) := by decide +kernel
theorem dX4_square_44 : decode cX4_square 44 = .ok (.goto 4, 3) := by decide +kernel
theorem dX4_square_47 : decode cX4_square 47 = .ok (.iload_n 2, 1) := by decide +kernel
theorem dX4_square_48 : decode cX4_square 48 = .ok (.ireturn, 1) := by decide +kernel
theorem dX4_square_49 : decode cX4_square 49 = .ok (.iconst 0, 1) := by decide +kernel
theorem dX4_square_50 : decode cX4_square 50 = .ok (.iload_n 2, 1) := by decide +kernel
theorem dX4_square_51 : decode cX4_square 51 = .ok (.iconst 1, 1) := by decide +kernel
theorem dX4_square_52 : decode cX4_square 52 = .ok (.isub, 1) := by decide +kernel
theorem dX4_square_53 : decode cX4_square 53 = .ok (.invokestatic 7, 3) := by decide +kernel
theorem dX4_square_56 : decode cX4_square 56 = .ok (.ireturn, 1) := by decide +kernel
theorem dX4_square_57 : decode cX4_square 57 = .ok (.iload_n 3, 1) := by decide +kernel
theorem dX4_square_58 : decode cX4_square 58 = .ok (.iconst 1, 1) := by decide +kernel
theorem dX4_square_59 : decode cX4_square 59 = .ok (.if_icmp .lt 7, 3) := by decide +kernel
theorem dX4_square_62 : decode cX4_square 62 = .ok (.iload_n 1, 1) := by decide +kernel
theorem dX4_square_63 : decode cX4_square 63 = .ok (.goto 4, 3) := by decide +kernel
theorem dX4_square_66 : decode cX4_square 66 = .ok (.iload_n 2, 1) := by decide +kernel
theorem dX4_square_67 : decode cX4_square 67 = .ok (.ireturn, 1) := by decide +kernel
theorem dX4_square_68 : decode cX4_square 68 = .ok (.iload 5, 2) := by decide +kernel
theorem dX4_square_70 : decode cX4_square 70 = .ok (.iload_n 2, 1) := by decide +kernel
theorem dX4_square_71 : decode cX4_square 71 = .ok (.iload 4, 2) := by decide +kernel
theorem dX4_square_73 : decode cX4_square 73 = .ok (.iadd, 1) := by decide +kernel
theorem dX4_square_74 : decode cX4_square 74 = .ok (.invokestatic 13, 3) := by decide +kernel
theorem dX4_square_77 : decode cX4_square 77 = .ok (.ireturn, 1) := by decide +kernel
theorem dX4_square_78 : decode cX4_square 78 = .ok (.iconst 0, 1) := by decide +kernel
theorem dX4_square_79 : decode cX4_square 79 = .ok (.iload_n 2, 1) := by decide +kernel
theorem dX4_square_80 : decode cX4_square 80 = .ok (.iconst 1, 1) := by decide +kernel
theorem dX4_square_81 : decode cX4_square 81 = .ok (.isub, 1) := by decide +kernel
theorem dX4_square_82 : decode cX4_square 82 = .ok (.iload 4, 2) := by decide +kernel
theorem dX4_square_84 : decode cX4_square 84 = .ok (.iconst 3, 1) := by decide +kernel
theorem dX4_square_85 : decode cX4_square 85 = .ok (.idiv, 1) := by decide +kernel
theorem dX4_square_86 : decode cX4_square 86 = .ok (.isub, 1) := by decide +kernel
theorem dX4_square_87 : decode cX4_square 87 = .ok (.invokestatic 7, 3) := by decide +kernel
theorem dX4_square_90 : decode cX4_square 90 = .ok (.ireturn, 1) := by decide +kernel
theorem dX4_square_91 : decode cX4_square 91 = .ok (.iload_n 2, 1) := by decide +kernel
theorem dX4_square_92 : decode cX4_square 92 = .ok (.ireturn, 1) := by decide +kernel
def fX4_square_48 (s0 : Int32) (h : gx_H) : Option (Int32 × gx_H) :=
  some (s0, h)
def fX4_square_67 (s0 : Int32) (h : gx_H) : Option (Int32 × gx_H) :=
  some (s0, h)
def fX4_square (v0 : Int32) (v1 : Int32) (v2 : Int32) (v3 : Int32) (v4 : Int32) (v5 : Int32) (h : gx_H) : Option (Int32 × gx_H) :=
  if v0 = (1 : Int32) then
    (gx_rI v3 (2 : Int32)).bind fun z1 =>
    if z1 = (1 : Int32) then
      fX4_square_48 v1 h
    else
      fX4_square_48 v2 h
  else
  if v0 = (2 : Int32) then
    some ((if (0 : Int32) < (v2 - (1 : Int32)) then (v2 - (1 : Int32)) else (0 : Int32)), h)
  else
  if v0 = (3 : Int32) then
    if v3 < (1 : Int32) then
      fX4_square_67 v2 h
    else
      fX4_square_67 v1 h
  else
  if v0 = (4 : Int32) then
    some ((if (v2 + v4) < v5 then (v2 + v4) else v5), h)
  else
  if v0 = (5 : Int32) then
    (gx_dI v4 (3 : Int32)).bind fun z2 =>
    some ((if (0 : Int32) < ((v2 - (1 : Int32)) - z2) then ((v2 - (1 : Int32)) - z2) else (0 : Int32)), h)
  else
  some (v2, h)
set_option maxRecDepth 100000 in
set_option maxHeartbeats 4000000 in
theorem gX4_square_48 {E : gx_Env} {d : Nat}  : ∀ (s0 : Int32) (h : gx_H), gx_G E RX4 cX4_square 6 (some .int) false (d + 1) 0 0 48 [none, none, none, none, none, none] [.int s0] h (fun x : Int32 => some (.int x)) (fX4_square_48 s0 h) := by
  intro s0 h
  unfold fX4_square_48
  exact gx_iret dX4_square_48 rfl
set_option maxRecDepth 100000 in
set_option maxHeartbeats 4000000 in
theorem gX4_square_67 {E : gx_Env} {d : Nat}  : ∀ (s0 : Int32) (h : gx_H), gx_G E RX4 cX4_square 6 (some .int) false (d + 1) 0 0 67 [none, none, none, none, none, none] [.int s0] h (fun x : Int32 => some (.int x)) (fX4_square_67 s0 h) := by
  intro s0 h
  unfold fX4_square_67
  exact gx_iret dX4_square_67 rfl
set_option maxRecDepth 100000 in
set_option maxHeartbeats 4000000 in
theorem geX4_square {E : gx_Env} {d : Nat} (v0 : Int32) (v1 : Int32) (v2 : Int32) (v3 : Int32) (v4 : Int32) (v5 : Int32) (h : gx_H) : gx_G E RX4 cX4_square 6 (some .int) false (d + 1) 0 0 0 [some (.int v0), some (.int v1), some (.int v2), some (.int v3), some (.int v4), some (.int v5)] [] h (fun x : Int32 => some (.int x)) (fX4_square v0 v1 v2 v3 v4 v5 h) := by
  unfold fX4_square
  refine gx_iload_n 0 dX4_square_0 rfl rfl ?_
  refine gx_ite (fun hx => ?_) (fun hx0 => ?_)
  · refine gx_tabIn (off := 35) 36 dX4_square_1 (by rw [hx]; decide) (by rw [hx]; decide) (by rw [hx]; decide) (by decide) ?_
    refine gx_iload_n 3 dX4_square_36 rfl rfl ?_
    refine gx_iconst (2 : Int32) dX4_square_37 (by decide) ?_
    refine gx_irem dX4_square_38 (fun z1 => ?_)
    refine gx_iconst (1 : Int32) dX4_square_39 (by decide) ?_
    refine gx_icmp_ne 47 dX4_square_40 (by decide) (fun _ => ?_) (fun _ => ?_)
    · refine gx_iload_n 2 dX4_square_47 rfl rfl ?_
      exact gx_sub (gX4_square_48 v2 h) True.intro
    · refine gx_iload_n 1 dX4_square_43 rfl rfl ?_
      refine gx_goto 48 dX4_square_44 (by decide) ?_
      exact gx_sub (gX4_square_48 v1 h) True.intro
  refine gx_ite (fun hx => ?_) (fun hx1 => ?_)
  · refine gx_tabIn (off := 48) 49 dX4_square_1 (by rw [hx]; decide) (by rw [hx]; decide) (by rw [hx]; decide) (by decide) ?_
    refine gx_iconst (0 : Int32) dX4_square_49 (by decide) ?_
    refine gx_iload_n 2 dX4_square_50 rfl rfl ?_
    refine gx_iconst (1 : Int32) dX4_square_51 (by decide) ?_
    refine gx_isub dX4_square_52 ?_
    refine gx_mmax kk_RX4_7 km_max_s km_i km_max_c dX4_square_53 (gx_w8 rfl) ?_
    exact gx_iret dX4_square_56 rfl
  refine gx_ite (fun hx => ?_) (fun hx2 => ?_)
  · refine gx_tabIn (off := 56) 57 dX4_square_1 (by rw [hx]; decide) (by rw [hx]; decide) (by rw [hx]; decide) (by decide) ?_
    refine gx_iload_n 3 dX4_square_57 rfl rfl ?_
    refine gx_iconst (1 : Int32) dX4_square_58 (by decide) ?_
    refine gx_icmp_lt 66 dX4_square_59 (by decide) (fun _ => ?_) (fun _ => ?_)
    · refine gx_iload_n 2 dX4_square_66 rfl rfl ?_
      exact gx_sub (gX4_square_67 v2 h) True.intro
    · refine gx_iload_n 1 dX4_square_62 rfl rfl ?_
      refine gx_goto 67 dX4_square_63 (by decide) ?_
      exact gx_sub (gX4_square_67 v1 h) True.intro
  refine gx_ite (fun hx => ?_) (fun hx3 => ?_)
  · refine gx_tabIn (off := 67) 68 dX4_square_1 (by rw [hx]; decide) (by rw [hx]; decide) (by rw [hx]; decide) (by decide) ?_
    refine gx_iload dX4_square_68 rfl ?_
    refine gx_iload_n 2 dX4_square_70 rfl rfl ?_
    refine gx_iload dX4_square_71 rfl ?_
    refine gx_iadd dX4_square_73 ?_
    refine gx_mmin kk_RX4_13 km_min_s km_i km_min_c dX4_square_74 (gx_w8 rfl) ?_
    exact gx_iret dX4_square_77 rfl
  refine gx_ite (fun hx => ?_) (fun hx4 => ?_)
  · refine gx_tabIn (off := 77) 78 dX4_square_1 (by rw [hx]; decide) (by rw [hx]; decide) (by rw [hx]; decide) (by decide) ?_
    refine gx_iconst (0 : Int32) dX4_square_78 (by decide) ?_
    refine gx_iload_n 2 dX4_square_79 rfl rfl ?_
    refine gx_iconst (1 : Int32) dX4_square_80 (by decide) ?_
    refine gx_isub dX4_square_81 ?_
    refine gx_iload dX4_square_82 rfl ?_
    refine gx_iconst (3 : Int32) dX4_square_84 (by decide) ?_
    refine gx_idiv dX4_square_85 (fun z2 => ?_)
    refine gx_isub dX4_square_86 ?_
    refine gx_mmax kk_RX4_7 km_max_s km_i km_max_c dX4_square_87 (gx_w8 rfl) ?_
    exact gx_iret dX4_square_90 rfl
  refine gx_tabOut 91 dX4_square_1 (by have q0 := lv_neT hx0 (a := 1) (by decide); have q1 := lv_neT hx1 (a := 2) (by decide); have q2 := lv_neT hx2 (a := 3) (by decide); have q3 := lv_neT hx3 (a := 4) (by decide); have q4 := lv_neT hx4 (a := 5) (by decide); omega) (by decide) ?_
  refine gx_iload_n 2 dX4_square_91 rfl rfl ?_
  exact gx_iret dX4_square_92 rfl
theorem okX4_square {E : gx_Env} (d : Nat) {v0 : Int32} {v1 : Int32} {v2 : Int32} {v3 : Int32} {v4 : Int32} {v5 : Int32} {h : gx_H} {r : Int32} {h1 : gx_H} (q : fX4_square v0 v1 v2 v3 v4 v5 h = some (r, h1)) : gx_M E yX4_square cX4_square 6 (some .int) (d + 1) 0 0 [.int v0, .int v1, .int v2, .int v3, .int v4, .int v5] h ((fun x : Int32 => some (.int x)) r) h1 := gx_meth (y := yX4_square) (cc := cX4_square) (nL := 6) (em := (fun x : Int32 => some (.int x))) (ini := false) [.int v0, .int v1, .int v2, .int v3, .int v4, .int v5] (by decide) (by simp [gx_sl]) (fun q => by cases q) (geX4_square v0 v1 v2 v3 v4 v5 h) q
theorem dX0_leadOf_0 : decode cX0_leadOf 0 = .ok (.aload_n 0, 1) := by decide +kernel
theorem dX0_leadOf_1 : decode cX0_leadOf 1 = .ok (.getfield 24, 3) := by decide +kernel
theorem dX0_leadOf_4 : decode cX0_leadOf 4 = .ok (.iload_n 1, 1) := by decide +kernel
theorem dX0_leadOf_5 : decode cX0_leadOf 5 = .ok (.iaload, 1) := by decide +kernel
theorem dX0_leadOf_6 : decode cX0_leadOf 6 = .ok (.aload_n 0, 1) := by decide +kernel
theorem dX0_leadOf_7 : decode cX0_leadOf 7 = .ok (.getfield 28, 3) := by decide +kernel
theorem dX0_leadOf_10 : decode cX0_leadOf 10 = .ok (.iload_n 1, 1) := by decide +kernel
theorem dX0_leadOf_11 : decode cX0_leadOf 11 = .ok (.iaload, 1) := by decide +kernel
theorem dX0_leadOf_12 : decode cX0_leadOf 12 = .ok (.aload_n 0, 1) := by decide +kernel
theorem dX0_leadOf_13 : decode cX0_leadOf 13 = .ok (.getfield 31, 3) := by decide +kernel
theorem dX0_leadOf_16 : decode cX0_leadOf 16 = .ok (.iload_n 1, 1) := by decide +kernel
theorem dX0_leadOf_17 : decode cX0_leadOf 17 = .ok (.iaload, 1) := by decide +kernel
theorem dX0_leadOf_18 : decode cX0_leadOf 18 = .ok (.aload_n 0, 1) := by decide +kernel
theorem dX0_leadOf_19 : decode cX0_leadOf 19 = .ok (.getfield 34, 3) := by decide +kernel
theorem dX0_leadOf_22 : decode cX0_leadOf 22 = .ok (.iload_n 1, 1) := by decide +kernel
theorem dX0_leadOf_23 : decode cX0_leadOf 23 = .ok (.iaload, 1) := by decide +kernel
theorem dX0_leadOf_24 : decode cX0_leadOf 24 = .ok (.iload_n 2, 1) := by decide +kernel
theorem dX0_leadOf_25 : decode cX0_leadOf 25 = .ok (.aload_n 0, 1) := by decide +kernel
theorem dX0_leadOf_26 : decode cX0_leadOf 26 = .ok (.getfield 9, 3) := by decide +kernel
theorem dX0_leadOf_29 : decode cX0_leadOf 29 = .ok (.invokestatic 89, 3) := by decide +kernel
theorem dX0_leadOf_32 : decode cX0_leadOf 32 = .ok (.ireturn, 1) := by decide +kernel
def fX0_leadOf (v0 : Nat) (v1 : Int32) (v2 : Int32) (h : gx_H) : Option (Int32 × gx_H) :=
  (gx_isO h v0 0).bind fun _ =>
  (gx_fR h v0 0 4).bind fun a1 =>
  (gx_aI 0 h a1 v1).bind fun x2 =>
  (gx_fR h v0 0 5).bind fun a3 =>
  (gx_aI 0 h a3 v1).bind fun x4 =>
  (gx_fR h v0 0 6).bind fun a5 =>
  (gx_aI 0 h a5 v1).bind fun x6 =>
  (gx_fR h v0 0 7).bind fun a7 =>
  (gx_aI 0 h a7 v1).bind fun x8 =>
  (gx_fI h v0 0 0).bind fun x9 =>
  gx_bd (fX4_square x2 x4 x6 x8 v2 x9 h) fun x11 h10 =>
  some (x11, h10)
set_option maxRecDepth 100000 in
set_option maxHeartbeats 4000000 in
theorem geX0_leadOf {E : gx_Env} {d : Nat} (v0 : Nat) (v1 : Int32) (v2 : Int32) (h : gx_H) : gx_G E RX0 cX0_leadOf 3 (some .int) false (d + 2) 0 0 0 [some (.ref v0), some (.int v1), some (.int v2)] [] h (fun x : Int32 => some (.int x)) (fX0_leadOf v0 v1 v2 h) := by
  unfold fX0_leadOf
  refine gx_bind fun _ _ => ?_
  refine gx_aload_n 0 dX0_leadOf_0 rfl rfl ?_
  refine gx_getR kf_RX0_24 dX0_leadOf_1 (fun a1 => ?_)
  refine gx_iload_n 1 dX0_leadOf_4 rfl rfl ?_
  refine gx_iald dX0_leadOf_5 (fun x2 => ?_)
  refine gx_aload_n 0 dX0_leadOf_6 rfl rfl ?_
  refine gx_getR kf_RX0_28 dX0_leadOf_7 (fun a3 => ?_)
  refine gx_iload_n 1 dX0_leadOf_10 rfl rfl ?_
  refine gx_iald dX0_leadOf_11 (fun x4 => ?_)
  refine gx_aload_n 0 dX0_leadOf_12 rfl rfl ?_
  refine gx_getR kf_RX0_31 dX0_leadOf_13 (fun a5 => ?_)
  refine gx_iload_n 1 dX0_leadOf_16 rfl rfl ?_
  refine gx_iald dX0_leadOf_17 (fun x6 => ?_)
  refine gx_aload_n 0 dX0_leadOf_18 rfl rfl ?_
  refine gx_getR kf_RX0_34 dX0_leadOf_19 (fun a7 => ?_)
  refine gx_iload_n 1 dX0_leadOf_22 rfl rfl ?_
  refine gx_iald dX0_leadOf_23 (fun x8 => ?_)
  refine gx_iload_n 2 dX0_leadOf_24 rfl rfl ?_
  refine gx_aload_n 0 dX0_leadOf_25 rfl rfl ?_
  refine gx_getI kf_RX0_9 dX0_leadOf_26 (fun x9 => ?_)
  refine gx_callS (bc := 0) (bs := 0) (mc := 0) (ms := 0) (em' := (fun x : Int32 => some (.int x))) [.int x2, .int x4, .int x6, .int x8, .int v2, .int x9] kc_RX0_89 dX0_leadOf_29 rfl rfl (gx_w8 rfl) (fun _ _ q => okX4_square d q) (fun x11 h10 => ?_)
  exact gx_iret dX0_leadOf_32 rfl
theorem okX0_leadOf {E : gx_Env} (d : Nat) {v0 : Nat} {v1 : Int32} {v2 : Int32} {h : gx_H} {r : Int32} {h1 : gx_H} (q : fX0_leadOf v0 v1 v2 h = some (r, h1)) : gx_M E yX0_leadOf cX0_leadOf 3 (some .int) (d + 2) 0 0 [.ref v0, .int v1, .int v2] h ((fun x : Int32 => some (.int x)) r) h1 := gx_meth (y := yX0_leadOf) (cc := cX0_leadOf) (nL := 3) (em := (fun x : Int32 => some (.int x))) (ini := false) [.ref v0, .int v1, .int v2] (by decide) (by simp [gx_sl]) (fun q => by cases q) (geX0_leadOf v0 v1 v2 h) q
theorem dX6_plain_0 : decode cX6_plain 0 = .ok (.iload_n 0, 1) := by decide +kernel
theorem dX6_plain_1 : decode cX6_plain 1 = .ok (.iload_n 1, 1) := by decide +kernel
theorem dX6_plain_2 : decode cX6_plain 2 = .ok (.iadd, 1) := by decide +kernel
theorem dX6_plain_3 : decode cX6_plain 3 = .ok (.iload_n 2, 1) := by decide +kernel
theorem dX6_plain_4 : decode cX6_plain 4 = .ok (.if_icmp .le 7, 3) := by decide +kernel
theorem dX6_plain_7 : decode cX6_plain 7 = .ok (.iload_n 0, 1) := by decide +kernel
theorem dX6_plain_8 : decode cX6_plain 8 = .ok (.goto 6, 3) := by decide +kernel
theorem dX6_plain_11 : decode cX6_plain 11 = .ok (.iload_n 0, 1) := by decide +kernel
theorem dX6_plain_12 : decode cX6_plain 12 = .ok (.iload_n 1, 1) := by decide +kernel
theorem dX6_plain_13 : decode cX6_plain 13 = .ok (.iadd, 1) := by decide +kernel
theorem dX6_plain_14 : decode cX6_plain 14 = .ok (.ireturn, 1) := by decide +kernel
def fX6_plain_14 (s0 : Int32) (h : gx_H) : Option (Int32 × gx_H) :=
  some (s0, h)
def fX6_plain (v0 : Int32) (v1 : Int32) (v2 : Int32) (h : gx_H) : Option (Int32 × gx_H) :=
  if (v0 + v1) ≤ v2 then
    fX6_plain_14 (v0 + v1) h
  else
    fX6_plain_14 v0 h
set_option maxRecDepth 100000 in
set_option maxHeartbeats 4000000 in
theorem gX6_plain_14 {E : gx_Env} {d : Nat}  : ∀ (s0 : Int32) (h : gx_H), gx_G E RX6 cX6_plain 3 (some .int) false d 0 0 14 [none, none, none] [.int s0] h (fun x : Int32 => some (.int x)) (fX6_plain_14 s0 h) := by
  intro s0 h
  unfold fX6_plain_14
  exact gx_iret dX6_plain_14 rfl
set_option maxRecDepth 100000 in
set_option maxHeartbeats 4000000 in
theorem geX6_plain {E : gx_Env} {d : Nat} (v0 : Int32) (v1 : Int32) (v2 : Int32) (h : gx_H) : gx_G E RX6 cX6_plain 3 (some .int) false d 0 0 0 [some (.int v0), some (.int v1), some (.int v2)] [] h (fun x : Int32 => some (.int x)) (fX6_plain v0 v1 v2 h) := by
  unfold fX6_plain
  refine gx_iload_n 0 dX6_plain_0 rfl rfl ?_
  refine gx_iload_n 1 dX6_plain_1 rfl rfl ?_
  refine gx_iadd dX6_plain_2 ?_
  refine gx_iload_n 2 dX6_plain_3 rfl rfl ?_
  refine gx_icmp_le 11 dX6_plain_4 (by decide) (fun _ => ?_) (fun _ => ?_)
  · refine gx_iload_n 0 dX6_plain_11 rfl rfl ?_
    refine gx_iload_n 1 dX6_plain_12 rfl rfl ?_
    refine gx_iadd dX6_plain_13 ?_
    exact gx_sub (gX6_plain_14 (v0 + v1) h) True.intro
  · refine gx_iload_n 0 dX6_plain_7 rfl rfl ?_
    refine gx_goto 14 dX6_plain_8 (by decide) ?_
    exact gx_sub (gX6_plain_14 v0 h) True.intro
theorem okX6_plain {E : gx_Env} (d : Nat) {v0 : Int32} {v1 : Int32} {v2 : Int32} {h : gx_H} {r : Int32} {h1 : gx_H} (q : fX6_plain v0 v1 v2 h = some (r, h1)) : gx_M E yX6_plain cX6_plain 3 (some .int) d 0 0 [.int v0, .int v1, .int v2] h ((fun x : Int32 => some (.int x)) r) h1 := gx_meth (y := yX6_plain) (cc := cX6_plain) (nL := 3) (em := (fun x : Int32 => some (.int x))) (ini := false) [.int v0, .int v1, .int v2] (by decide) (by simp [gx_sl]) (fun q => by cases q) (geX6_plain v0 v1 v2 h) q
theorem dX6_timidly_0 : decode cX6_timidly 0 = .ok (.iload_n 0, 1) := by decide +kernel
theorem dX6_timidly_1 : decode cX6_timidly 1 = .ok (.bipush 6, 2) := by decide +kernel
theorem dX6_timidly_3 : decode cX6_timidly 3 = .ok (.if_icmp .ne 7, 3) := by decide +kernel
theorem dX6_timidly_6 : decode cX6_timidly 6 = .ok (.iconst 3, 1) := by decide +kernel
theorem dX6_timidly_7 : decode cX6_timidly 7 = .ok (.goto 4, 3) := by decide +kernel
theorem dX6_timidly_10 : decode cX6_timidly 10 = .ok (.iload_n 0, 1) := by decide +kernel
theorem dX6_timidly_11 : decode cX6_timidly 11 = .ok (.ireturn, 1) := by decide +kernel
def fX6_timidly_11 (s0 : Int32) (h : gx_H) : Option (Int32 × gx_H) :=
  some (s0, h)
def fX6_timidly (v0 : Int32) (h : gx_H) : Option (Int32 × gx_H) :=
  if v0 = (6 : Int32) then
    fX6_timidly_11 (3 : Int32) h
  else
    fX6_timidly_11 v0 h
set_option maxRecDepth 100000 in
set_option maxHeartbeats 4000000 in
theorem gX6_timidly_11 {E : gx_Env} {d : Nat}  : ∀ (s0 : Int32) (h : gx_H), gx_G E RX6 cX6_timidly 1 (some .int) false d 0 0 11 [none] [.int s0] h (fun x : Int32 => some (.int x)) (fX6_timidly_11 s0 h) := by
  intro s0 h
  unfold fX6_timidly_11
  exact gx_iret dX6_timidly_11 rfl
set_option maxRecDepth 100000 in
set_option maxHeartbeats 4000000 in
theorem geX6_timidly {E : gx_Env} {d : Nat} (v0 : Int32) (h : gx_H) : gx_G E RX6 cX6_timidly 1 (some .int) false d 0 0 0 [some (.int v0)] [] h (fun x : Int32 => some (.int x)) (fX6_timidly v0 h) := by
  unfold fX6_timidly
  refine gx_iload_n 0 dX6_timidly_0 rfl rfl ?_
  refine gx_bipush (6 : Int32) dX6_timidly_1 (by decide) ?_
  refine gx_icmp_ne 10 dX6_timidly_3 (by decide) (fun _ => ?_) (fun _ => ?_)
  · refine gx_iload_n 0 dX6_timidly_10 rfl rfl ?_
    exact gx_sub (gX6_timidly_11 v0 h) True.intro
  · refine gx_iconst (3 : Int32) dX6_timidly_6 (by decide) ?_
    refine gx_goto 11 dX6_timidly_7 (by decide) ?_
    exact gx_sub (gX6_timidly_11 (3 : Int32) h) True.intro
theorem okX6_timidly {E : gx_Env} (d : Nat) {v0 : Int32} {h : gx_H} {r : Int32} {h1 : gx_H} (q : fX6_timidly v0 h = some (r, h1)) : gx_M E yX6_timidly cX6_timidly 1 (some .int) d 0 0 [.int v0] h ((fun x : Int32 => some (.int x)) r) h1 := gx_meth (y := yX6_timidly) (cc := cX6_timidly) (nL := 1) (em := (fun x : Int32 => some (.int x))) (ini := false) [.int v0] (by decide) (by simp [gx_sl]) (fun q => by cases q) (geX6_timidly v0 h) q
theorem dX6_cheated_0 : decode cX6_cheated 0 = .ok (.iload_n 0, 1) := by decide +kernel
theorem dX6_cheated_1 : decode cX6_cheated 1 = .ok (.iconst 1, 1) := by decide +kernel
theorem dX6_cheated_2 : decode cX6_cheated 2 = .ok (.if_icmp .ne 7, 3) := by decide +kernel
theorem dX6_cheated_5 : decode cX6_cheated 5 = .ok (.iconst 2, 1) := by decide +kernel
theorem dX6_cheated_6 : decode cX6_cheated 6 = .ok (.goto 4, 3) := by decide +kernel
theorem dX6_cheated_9 : decode cX6_cheated 9 = .ok (.iload_n 0, 1) := by decide +kernel
theorem dX6_cheated_10 : decode cX6_cheated 10 = .ok (.ireturn, 1) := by decide +kernel
def fX6_cheated_10 (s0 : Int32) (h : gx_H) : Option (Int32 × gx_H) :=
  some (s0, h)
def fX6_cheated (v0 : Int32) (h : gx_H) : Option (Int32 × gx_H) :=
  if v0 = (1 : Int32) then
    fX6_cheated_10 (2 : Int32) h
  else
    fX6_cheated_10 v0 h
set_option maxRecDepth 100000 in
set_option maxHeartbeats 4000000 in
theorem gX6_cheated_10 {E : gx_Env} {d : Nat}  : ∀ (s0 : Int32) (h : gx_H), gx_G E RX6 cX6_cheated 1 (some .int) false d 0 0 10 [none] [.int s0] h (fun x : Int32 => some (.int x)) (fX6_cheated_10 s0 h) := by
  intro s0 h
  unfold fX6_cheated_10
  exact gx_iret dX6_cheated_10 rfl
set_option maxRecDepth 100000 in
set_option maxHeartbeats 4000000 in
theorem geX6_cheated {E : gx_Env} {d : Nat} (v0 : Int32) (h : gx_H) : gx_G E RX6 cX6_cheated 1 (some .int) false d 0 0 0 [some (.int v0)] [] h (fun x : Int32 => some (.int x)) (fX6_cheated v0 h) := by
  unfold fX6_cheated
  refine gx_iload_n 0 dX6_cheated_0 rfl rfl ?_
  refine gx_iconst (1 : Int32) dX6_cheated_1 (by decide) ?_
  refine gx_icmp_ne 9 dX6_cheated_2 (by decide) (fun _ => ?_) (fun _ => ?_)
  · refine gx_iload_n 0 dX6_cheated_9 rfl rfl ?_
    exact gx_sub (gX6_cheated_10 v0 h) True.intro
  · refine gx_iconst (2 : Int32) dX6_cheated_5 (by decide) ?_
    refine gx_goto 10 dX6_cheated_6 (by decide) ?_
    exact gx_sub (gX6_cheated_10 (2 : Int32) h) True.intro
theorem okX6_cheated {E : gx_Env} (d : Nat) {v0 : Int32} {h : gx_H} {r : Int32} {h1 : gx_H} (q : fX6_cheated v0 h = some (r, h1)) : gx_M E yX6_cheated cX6_cheated 1 (some .int) d 0 0 [.int v0] h ((fun x : Int32 => some (.int x)) r) h1 := gx_meth (y := yX6_cheated) (cc := cX6_cheated) (nL := 1) (em := (fun x : Int32 => some (.int x))) (ini := false) [.int v0] (by decide) (by simp [gx_sl]) (fun q => by cases q) (geX6_cheated v0 h) q
theorem dX6_square_0 : decode cX6_square 0 = .ok (.iload_n 0, 1) := by decide +kernel
theorem dX6_square_1 : decode cX6_square 1 = .ok (.tableswitch 111 1 5 #[35, 56, 66, 76, 97], 35) := by decide +kernel
theorem dX6_square_36 : decode cX6_square 36 = .ok (.iload_n 1, 1) := by decide +kernel
theorem dX6_square_37 : decode cX6_square 37 = .ok (.iload_n 2, 1) := by decide +kernel
theorem dX6_square_38 : decode cX6_square 38 = .ok (.iadd, 1) := by decide +kernel
theorem dX6_square_39 : decode cX6_square 39 = .ok (.iload_n 3, 1) := by decide +kernel
theorem dX6_square_40 : decode cX6_square 40 = .ok (.if_icmp .le 13, 3) := by decide +kernel
theorem dX6_square_43 : decode cX6_square 43 = .ok (.iconst 2, 1) := by decide +kernel
theorem dX6_square_44 : decode cX6_square 44 = .ok (.iload_n 3, 1) := by decide +kernel
theorem dX6_square_45 : decode cX6_square 45 = .ok (.imul, 1) := by decide +kernel
theorem dX6_square_46 : decode cX6_square 46 = .ok (.iload_n 1, 1) := by decide +kernel
theorem dX6_square_47 : decode cX6_square 47 = .ok (.isub, 1) := by decide +kernel
theorem dX6_square_48 : decode cX6_square 48 = .ok (.iload_n 2, 1) := by decide +kernel
theorem dX6_square_49 : decode cX6_square 49 = .ok (.isub, 1) := by decide +kernel
theorem dX6_square_50 : decode cX6_square 50 = .ok (.goto 6, 3) := by decide +kernel
theorem dX6_square_53 : decode cX6_square 53 = .ok (.iload_n 1, 1) := by decide +kernel
theorem dX6_square_54 : decode cX6_square 54 = .ok (.iload_n 2, 1) := by decide +kernel
theorem dX6_square_55 : decode cX6_square 55 = .ok (.iadd, 1) := by decide +kernel
theorem dX6_square_56 : decode cX6_square 56 = .ok (.ireturn, 1) := by decide +kernel
theorem dX6_square_57 : decode cX6_square 57 = .ok (.iload_n 1, 1) := by decide +kernel
theorem dX6_square_58 : decode cX6_square 58 = .ok (.iload_n 2, 1) := by decide +kernel
theorem dX6_square_59 : decode cX6_square 59 = .ok (.invokestatic 7, 3) := by decide +kernel
theorem dX6_square_62 : decode cX6_square 62 = .ok (.iload_n 3, 1) := by decide +kernel
theorem dX6_square_63 : decode cX6_square 63 = .ok (.invokestatic 13, 3) := by decide +kernel
theorem dX6_square_66 : decode cX6_square 66 = .ok (.ireturn, 1) := by decide +kernel
theorem dX6_square_67 : decode cX6_square 67 = .ok (.iload_n 1, 1) := by decide +kernel
theorem dX6_square_68 : decode cX6_square 68 = .ok (.iload_n 2, 1) := by decide +kernel
theorem dX6_square_69 : decode cX6_square 69 = .ok (.invokestatic 17, 3) := by decide +kernel
theorem dX6_square_72 : decode cX6_square 72 = .ok (.iload_n 3, 1) := by decide +kernel
theorem dX6_square_73 : decode cX6_square 73 = .ok (.invokestatic 13, 3) := by decide +kernel
theorem dX6_square_76 : decode cX6_square 76 = .ok (.ireturn, 1) := by decide +kernel
theorem dX6_square_77 : decode cX6_square 77 = .ok (.iload_n 1, 1) := by decide +kernel
theorem dX6_square_78 : decode cX6_square 78 = .ok (.iload_n 2, 1) := by decide +kernel
theorem dX6_square_79 : decode cX6_square 79 = .ok (.iadd, 1) := by decide +kernel
theorem dX6_square_80 : decode cX6_square 80 = .ok (.iload_n 3, 1) := by decide +kernel
theorem dX6_square_81 : decode cX6_square 81 = .ok (.if_icmp .lt 7, 3) := by decide +kernel
theorem dX6_square_84 : decode cX6_square 84 = .ok (.iload_n 3, 1) := by decide +kernel
theorem dX6_square_85 : decode cX6_square 85 = .ok (.goto 12, 3) := by decide +kernel
theorem dX6_square_88 : decode cX6_square 88 = .ok (.iload_n 1, 1) := by decide +kernel
theorem dX6_square_89 : decode cX6_square 89 = .ok (.iload_n 2, 1) := by decide +kernel
theorem dX6_square_90 : decode cX6_square 90 = .ok (.invokestatic 17, 3) := by decide +kernel
theorem dX6_square_93 : decode cX6_square 93 = .ok (.iload_n 3, 1) := by decide +kernel
theorem dX6_square_94 : decode cX6_square 94 = .ok (.invokestatic 13, 3) := by decide +kernel
theorem dX6_square_97 : decode cX6_square 97 = .ok (.ireturn, 1) := by decide +kernel
theorem dX6_square_98 : decode cX6_square 98 = .ok (.iload_n 1, 1) := by decide +kernel
theorem dX6_square_99 : decode cX6_square 99 = .ok (.iload_n 2, 1) := by decide +kernel
theorem dX6_square_100 : decode cX6_square 100 = .ok (.iconst 1, 1) := by decide +kernel
theorem dX6_square_101 : decode cX6_square 101 = .ok (.iadd, 1) := by decide +kernel
theorem dX6_square_102 : decode cX6_square 102 = .ok (.iconst 2, 1) := by decide +kernel
theorem dX6_square_103 : decode cX6_square 103 = .ok (.idiv, 1) := by decide +kernel
theorem dX6_square_104 : decode cX6_square 104 = .ok (.invokestatic 7, 3) := by decide +kernel
theorem dX6_square_107 : decode cX6_square 107 = .ok (.iload_n 3, 1) := by decide +kernel
theorem dX6_square_108 : decode cX6_square 108 = .ok (.invokestatic 13, 3) := by decide +kernel
theorem dX6_square_111 : decode cX6_square 111 = .ok (.ireturn, 1) := by decide +kernel
theorem dX6_square_112 : decode cX6_square 112 = .ok (.iload_n 1, 1) := by decide +kernel
theorem dX6_square_113 : decode cX6_square 113 = .ok (.iload_n 2, 1) := by decide +kernel
theorem dX6_square_114 : decode cX6_square 114 = .ok (.iload_n 3, 1) := by decide +kernel
theorem dX6_square_115 : decode cX6_square 115 = .ok (.invokestatic 13, 3) := by decide +kernel
theorem dX6_square_118 : decode cX6_square 118 = .ok (.ireturn, 1) := by decide +kernel
def fX6_square_56 (s0 : Int32) (h : gx_H) : Option (Int32 × gx_H) :=
  some (s0, h)
def fX6_square_97 (s0 : Int32) (h : gx_H) : Option (Int32 × gx_H) :=
  some (s0, h)
def fX6_square (v0 : Int32) (v1 : Int32) (v2 : Int32) (v3 : Int32) (h : gx_H) : Option (Int32 × gx_H) :=
  if v0 = (1 : Int32) then
    if (v1 + v2) ≤ v3 then
      fX6_square_56 (v1 + v2) h
    else
      fX6_square_56 ((((2 : Int32) * v3) - v1) - v2) h
  else
  if v0 = (2 : Int32) then
    gx_bd (fX6_timidly v2 h) fun x2 h1 =>
    gx_bd (fX6_plain v1 x2 v3 h1) fun x4 h3 =>
    some (x4, h3)
  else
  if v0 = (3 : Int32) then
    gx_bd (fX6_cheated v2 h) fun x6 h5 =>
    gx_bd (fX6_plain v1 x6 v3 h5) fun x8 h7 =>
    some (x8, h7)
  else
  if v0 = (4 : Int32) then
    if (v1 + v2) < v3 then
      gx_bd (fX6_cheated v2 h) fun x10 h9 =>
      gx_bd (fX6_plain v1 x10 v3 h9) fun x12 h11 =>
      fX6_square_97 x12 h11
    else
      fX6_square_97 v3 h
  else
  if v0 = (5 : Int32) then
    (gx_dI (v2 + (1 : Int32)) (2 : Int32)).bind fun z13 =>
    gx_bd (fX6_timidly z13 h) fun x15 h14 =>
    gx_bd (fX6_plain v1 x15 v3 h14) fun x17 h16 =>
    some (x17, h16)
  else
  gx_bd (fX6_plain v1 v2 v3 h) fun x19 h18 =>
  some (x19, h18)
set_option maxRecDepth 100000 in
set_option maxHeartbeats 4000000 in
theorem gX6_square_56 {E : gx_Env} {d : Nat}  : ∀ (s0 : Int32) (h : gx_H), gx_G E RX6 cX6_square 4 (some .int) false (d + 1) 0 0 56 [none, none, none, none] [.int s0] h (fun x : Int32 => some (.int x)) (fX6_square_56 s0 h) := by
  intro s0 h
  unfold fX6_square_56
  exact gx_iret dX6_square_56 rfl
set_option maxRecDepth 100000 in
set_option maxHeartbeats 4000000 in
theorem gX6_square_97 {E : gx_Env} {d : Nat}  : ∀ (s0 : Int32) (h : gx_H), gx_G E RX6 cX6_square 4 (some .int) false (d + 1) 0 0 97 [none, none, none, none] [.int s0] h (fun x : Int32 => some (.int x)) (fX6_square_97 s0 h) := by
  intro s0 h
  unfold fX6_square_97
  exact gx_iret dX6_square_97 rfl
set_option maxRecDepth 100000 in
set_option maxHeartbeats 4000000 in
theorem geX6_square {E : gx_Env} {d : Nat} (v0 : Int32) (v1 : Int32) (v2 : Int32) (v3 : Int32) (h : gx_H) : gx_G E RX6 cX6_square 4 (some .int) false (d + 1) 0 0 0 [some (.int v0), some (.int v1), some (.int v2), some (.int v3)] [] h (fun x : Int32 => some (.int x)) (fX6_square v0 v1 v2 v3 h) := by
  unfold fX6_square
  refine gx_iload_n 0 dX6_square_0 rfl rfl ?_
  refine gx_ite (fun hx => ?_) (fun hx0 => ?_)
  · refine gx_tabIn (off := 35) 36 dX6_square_1 (by rw [hx]; decide) (by rw [hx]; decide) (by rw [hx]; decide) (by decide) ?_
    refine gx_iload_n 1 dX6_square_36 rfl rfl ?_
    refine gx_iload_n 2 dX6_square_37 rfl rfl ?_
    refine gx_iadd dX6_square_38 ?_
    refine gx_iload_n 3 dX6_square_39 rfl rfl ?_
    refine gx_icmp_le 53 dX6_square_40 (by decide) (fun _ => ?_) (fun _ => ?_)
    · refine gx_iload_n 1 dX6_square_53 rfl rfl ?_
      refine gx_iload_n 2 dX6_square_54 rfl rfl ?_
      refine gx_iadd dX6_square_55 ?_
      exact gx_sub (gX6_square_56 (v1 + v2) h) True.intro
    · refine gx_iconst (2 : Int32) dX6_square_43 (by decide) ?_
      refine gx_iload_n 3 dX6_square_44 rfl rfl ?_
      refine gx_imul dX6_square_45 ?_
      refine gx_iload_n 1 dX6_square_46 rfl rfl ?_
      refine gx_isub dX6_square_47 ?_
      refine gx_iload_n 2 dX6_square_48 rfl rfl ?_
      refine gx_isub dX6_square_49 ?_
      refine gx_goto 56 dX6_square_50 (by decide) ?_
      exact gx_sub (gX6_square_56 ((((2 : Int32) * v3) - v1) - v2) h) True.intro
  refine gx_ite (fun hx => ?_) (fun hx1 => ?_)
  · refine gx_tabIn (off := 56) 57 dX6_square_1 (by rw [hx]; decide) (by rw [hx]; decide) (by rw [hx]; decide) (by decide) ?_
    refine gx_iload_n 1 dX6_square_57 rfl rfl ?_
    refine gx_iload_n 2 dX6_square_58 rfl rfl ?_
    refine gx_callS (bc := 0) (bs := 0) (mc := 0) (ms := 0) (em' := (fun x : Int32 => some (.int x))) [.int v2] kc_RX6_7 dX6_square_59 rfl rfl (gx_w8 rfl) (fun _ _ q => okX6_timidly d q) (fun x2 h1 => ?_)
    refine gx_iload_n 3 dX6_square_62 rfl rfl ?_
    refine gx_callS (bc := 0) (bs := 0) (mc := 0) (ms := 0) (em' := (fun x : Int32 => some (.int x))) [.int v1, .int x2, .int v3] kc_RX6_13 dX6_square_63 rfl rfl (gx_w8 rfl) (fun _ _ q => okX6_plain d q) (fun x4 h3 => ?_)
    exact gx_iret dX6_square_66 rfl
  refine gx_ite (fun hx => ?_) (fun hx2 => ?_)
  · refine gx_tabIn (off := 66) 67 dX6_square_1 (by rw [hx]; decide) (by rw [hx]; decide) (by rw [hx]; decide) (by decide) ?_
    refine gx_iload_n 1 dX6_square_67 rfl rfl ?_
    refine gx_iload_n 2 dX6_square_68 rfl rfl ?_
    refine gx_callS (bc := 0) (bs := 0) (mc := 0) (ms := 0) (em' := (fun x : Int32 => some (.int x))) [.int v2] kc_RX6_17 dX6_square_69 rfl rfl (gx_w8 rfl) (fun _ _ q => okX6_cheated d q) (fun x6 h5 => ?_)
    refine gx_iload_n 3 dX6_square_72 rfl rfl ?_
    refine gx_callS (bc := 0) (bs := 0) (mc := 0) (ms := 0) (em' := (fun x : Int32 => some (.int x))) [.int v1, .int x6, .int v3] kc_RX6_13 dX6_square_73 rfl rfl (gx_w8 rfl) (fun _ _ q => okX6_plain d q) (fun x8 h7 => ?_)
    exact gx_iret dX6_square_76 rfl
  refine gx_ite (fun hx => ?_) (fun hx3 => ?_)
  · refine gx_tabIn (off := 76) 77 dX6_square_1 (by rw [hx]; decide) (by rw [hx]; decide) (by rw [hx]; decide) (by decide) ?_
    refine gx_iload_n 1 dX6_square_77 rfl rfl ?_
    refine gx_iload_n 2 dX6_square_78 rfl rfl ?_
    refine gx_iadd dX6_square_79 ?_
    refine gx_iload_n 3 dX6_square_80 rfl rfl ?_
    refine gx_icmp_lt 88 dX6_square_81 (by decide) (fun _ => ?_) (fun _ => ?_)
    · refine gx_iload_n 1 dX6_square_88 rfl rfl ?_
      refine gx_iload_n 2 dX6_square_89 rfl rfl ?_
      refine gx_callS (bc := 0) (bs := 0) (mc := 0) (ms := 0) (em' := (fun x : Int32 => some (.int x))) [.int v2] kc_RX6_17 dX6_square_90 rfl rfl (gx_w8 rfl) (fun _ _ q => okX6_cheated d q) (fun x10 h9 => ?_)
      refine gx_iload_n 3 dX6_square_93 rfl rfl ?_
      refine gx_callS (bc := 0) (bs := 0) (mc := 0) (ms := 0) (em' := (fun x : Int32 => some (.int x))) [.int v1, .int x10, .int v3] kc_RX6_13 dX6_square_94 rfl rfl (gx_w8 rfl) (fun _ _ q => okX6_plain d q) (fun x12 h11 => ?_)
      exact gx_sub (gX6_square_97 x12 h11) True.intro
    · refine gx_iload_n 3 dX6_square_84 rfl rfl ?_
      refine gx_goto 97 dX6_square_85 (by decide) ?_
      exact gx_sub (gX6_square_97 v3 h) True.intro
  refine gx_ite (fun hx => ?_) (fun hx4 => ?_)
  · refine gx_tabIn (off := 97) 98 dX6_square_1 (by rw [hx]; decide) (by rw [hx]; decide) (by rw [hx]; decide) (by decide) ?_
    refine gx_iload_n 1 dX6_square_98 rfl rfl ?_
    refine gx_iload_n 2 dX6_square_99 rfl rfl ?_
    refine gx_iconst (1 : Int32) dX6_square_100 (by decide) ?_
    refine gx_iadd dX6_square_101 ?_
    refine gx_iconst (2 : Int32) dX6_square_102 (by decide) ?_
    refine gx_idiv dX6_square_103 (fun z13 => ?_)
    refine gx_callS (bc := 0) (bs := 0) (mc := 0) (ms := 0) (em' := (fun x : Int32 => some (.int x))) [.int z13] kc_RX6_7 dX6_square_104 rfl rfl (gx_w8 rfl) (fun _ _ q => okX6_timidly d q) (fun x15 h14 => ?_)
    refine gx_iload_n 3 dX6_square_107 rfl rfl ?_
    refine gx_callS (bc := 0) (bs := 0) (mc := 0) (ms := 0) (em' := (fun x : Int32 => some (.int x))) [.int v1, .int x15, .int v3] kc_RX6_13 dX6_square_108 rfl rfl (gx_w8 rfl) (fun _ _ q => okX6_plain d q) (fun x17 h16 => ?_)
    exact gx_iret dX6_square_111 rfl
  refine gx_tabOut 112 dX6_square_1 (by have q0 := lv_neT hx0 (a := 1) (by decide); have q1 := lv_neT hx1 (a := 2) (by decide); have q2 := lv_neT hx2 (a := 3) (by decide); have q3 := lv_neT hx3 (a := 4) (by decide); have q4 := lv_neT hx4 (a := 5) (by decide); omega) (by decide) ?_
  refine gx_iload_n 1 dX6_square_112 rfl rfl ?_
  refine gx_iload_n 2 dX6_square_113 rfl rfl ?_
  refine gx_iload_n 3 dX6_square_114 rfl rfl ?_
  refine gx_callS (bc := 0) (bs := 0) (mc := 0) (ms := 0) (em' := (fun x : Int32 => some (.int x))) [.int v1, .int v2, .int v3] kc_RX6_13 dX6_square_115 rfl rfl (gx_w8 rfl) (fun _ _ q => okX6_plain d q) (fun x19 h18 => ?_)
  exact gx_iret dX6_square_118 rfl
theorem okX6_square {E : gx_Env} (d : Nat) {v0 : Int32} {v1 : Int32} {v2 : Int32} {v3 : Int32} {h : gx_H} {r : Int32} {h1 : gx_H} (q : fX6_square v0 v1 v2 v3 h = some (r, h1)) : gx_M E yX6_square cX6_square 4 (some .int) (d + 1) 0 0 [.int v0, .int v1, .int v2, .int v3] h ((fun x : Int32 => some (.int x)) r) h1 := gx_meth (y := yX6_square) (cc := cX6_square) (nL := 4) (em := (fun x : Int32 => some (.int x))) (ini := false) [.int v0, .int v1, .int v2, .int v3] (by decide) (by simp [gx_sl]) (fun q => by cases q) (geX6_square v0 v1 v2 v3 h) q
theorem dX0_landing_0 : decode cX0_landing 0 = .ok (.aload_n 0, 1) := by decide +kernel
theorem dX0_landing_1 : decode cX0_landing 1 = .ok (.getfield 37, 3) := by decide +kernel
theorem dX0_landing_4 : decode cX0_landing 4 = .ok (.iload_n 1, 1) := by decide +kernel
theorem dX0_landing_5 : decode cX0_landing 5 = .ok (.iaload, 1) := by decide +kernel
theorem dX0_landing_6 : decode cX0_landing 6 = .ok (.aload_n 0, 1) := by decide +kernel
theorem dX0_landing_7 : decode cX0_landing 7 = .ok (.getfield 40, 3) := by decide +kernel
theorem dX0_landing_10 : decode cX0_landing 10 = .ok (.iload_n 1, 1) := by decide +kernel
theorem dX0_landing_11 : decode cX0_landing 11 = .ok (.iaload, 1) := by decide +kernel
theorem dX0_landing_12 : decode cX0_landing 12 = .ok (.iload_n 2, 1) := by decide +kernel
theorem dX0_landing_13 : decode cX0_landing 13 = .ok (.aload_n 0, 1) := by decide +kernel
theorem dX0_landing_14 : decode cX0_landing 14 = .ok (.getfield 9, 3) := by decide +kernel
theorem dX0_landing_17 : decode cX0_landing 17 = .ok (.invokestatic 50, 3) := by decide +kernel
theorem dX0_landing_20 : decode cX0_landing 20 = .ok (.istore_n 3, 1) := by decide +kernel
theorem dX0_landing_21 : decode cX0_landing 21 = .ok (.aload_n 0, 1) := by decide +kernel
theorem dX0_landing_22 : decode cX0_landing 22 = .ok (.iload_n 1, 1) := by decide +kernel
theorem dX0_landing_23 : decode cX0_landing 23 = .ok (.iload_n 3, 1) := by decide +kernel
theorem dX0_landing_24 : decode cX0_landing 24 = .ok (.invokevirtual 55, 3) := by decide +kernel
theorem dX0_landing_27 : decode cX0_landing 27 = .ok (.istore 4, 2) := by decide +kernel
theorem dX0_landing_29 : decode cX0_landing 29 = .ok (.iload 4, 2) := by decide +kernel
theorem dX0_landing_31 : decode cX0_landing 31 = .ok (.iconst (-1), 1) := by decide +kernel
theorem dX0_landing_32 : decode cX0_landing 32 = .ok (.if_icmp .ne 7, 3) := by decide +kernel
theorem dX0_landing_35 : decode cX0_landing 35 = .ok (.iload_n 3, 1) := by decide +kernel
theorem dX0_landing_36 : decode cX0_landing 36 = .ok (.goto 10, 3) := by decide +kernel
theorem dX0_landing_39 : decode cX0_landing 39 = .ok (.aload_n 0, 1) := by decide +kernel
theorem dX0_landing_40 : decode cX0_landing 40 = .ok (.iload 4, 2) := by decide +kernel
theorem dX0_landing_42 : decode cX0_landing 42 = .ok (.iload_n 2, 1) := by decide +kernel
theorem dX0_landing_43 : decode cX0_landing 43 = .ok (.invokevirtual 59, 3) := by decide +kernel
theorem dX0_landing_46 : decode cX0_landing 46 = .ok (.ireturn, 1) := by decide +kernel
def fX0_landing_46 (s0 : Int32) (h : gx_H) : Option (Int32 × gx_H) :=
  some (s0, h)
def fX0_landing (v0 : Nat) (v1 : Int32) (v2 : Int32) (h : gx_H) : Option (Int32 × gx_H) :=
  (gx_isO h v0 0).bind fun _ =>
  (gx_fR h v0 0 8).bind fun a1 =>
  (gx_aI 0 h a1 v1).bind fun x2 =>
  (gx_fR h v0 0 9).bind fun a3 =>
  (gx_aI 0 h a3 v1).bind fun x4 =>
  (gx_fI h v0 0 0).bind fun x5 =>
  gx_bd (fX6_square x2 x4 v2 x5 h) fun x7 h6 =>
  gx_bd (fX0_linkMet v0 v1 x7 h6) fun x9 h8 =>
  if x9 = (-1 : Int32) then
    fX0_landing_46 x7 h8
  else
    gx_bd (fX0_leadOf v0 x9 v2 h8) fun x11 h10 =>
    fX0_landing_46 x11 h10
set_option maxRecDepth 100000 in
set_option maxHeartbeats 4000000 in
theorem gX0_landing_46 {E : gx_Env} {d : Nat}  : ∀ (s0 : Int32) (h : gx_H), gx_G E RX0 cX0_landing 5 (some .int) false (d + 3) 0 0 46 [none, none, none, none, none] [.int s0] h (fun x : Int32 => some (.int x)) (fX0_landing_46 s0 h) := by
  intro s0 h
  unfold fX0_landing_46
  exact gx_iret dX0_landing_46 rfl
set_option maxRecDepth 100000 in
set_option maxHeartbeats 4000000 in
theorem geX0_landing {E : gx_Env} {d : Nat} (v0 : Nat) (v1 : Int32) (v2 : Int32) (h : gx_H) : gx_G E RX0 cX0_landing 5 (some .int) false (d + 3) 0 0 0 [some (.ref v0), some (.int v1), some (.int v2), none, none] [] h (fun x : Int32 => some (.int x)) (fX0_landing v0 v1 v2 h) := by
  unfold fX0_landing
  refine gx_bind fun _ _ => ?_
  refine gx_aload_n 0 dX0_landing_0 rfl rfl ?_
  refine gx_getR kf_RX0_37 dX0_landing_1 (fun a1 => ?_)
  refine gx_iload_n 1 dX0_landing_4 rfl rfl ?_
  refine gx_iald dX0_landing_5 (fun x2 => ?_)
  refine gx_aload_n 0 dX0_landing_6 rfl rfl ?_
  refine gx_getR kf_RX0_40 dX0_landing_7 (fun a3 => ?_)
  refine gx_iload_n 1 dX0_landing_10 rfl rfl ?_
  refine gx_iald dX0_landing_11 (fun x4 => ?_)
  refine gx_iload_n 2 dX0_landing_12 rfl rfl ?_
  refine gx_aload_n 0 dX0_landing_13 rfl rfl ?_
  refine gx_getI kf_RX0_9 dX0_landing_14 (fun x5 => ?_)
  refine gx_callS (bc := 0) (bs := 0) (mc := 0) (ms := 0) (em' := (fun x : Int32 => some (.int x))) [.int x2, .int x4, .int v2, .int x5] kc_RX0_50 dX0_landing_17 rfl rfl (gx_w8 rfl) (fun _ _ q => okX6_square (d + 1) q) (fun x7 h6 => ?_)
  refine gx_istore_n 3 [some (.ref v0), some (.int v1), some (.int v2), some (.int x7), none] dX0_landing_20 rfl (by decide) rfl ?_
  refine gx_aload_n 0 dX0_landing_21 rfl rfl ?_
  refine gx_iload_n 1 dX0_landing_22 rfl rfl ?_
  refine gx_iload_n 3 dX0_landing_23 rfl rfl ?_
  refine gx_callV (ci := 0) (bc := 0) (bs := 0) (mc := 0) (ms := 0) (em' := (fun x : Int32 => some (.int x))) [.int v1, .int x7] kc_RX0_55 rfl dX0_landing_24 rfl rfl (gx_w8 rfl) (fun x q => (gx_isO_of (by unfold fX0_linkMet at q; exact q)).2) (fun _ _ q => okX0_linkMet (d + 1) q) (fun x9 h8 => ?_)
  refine gx_istore [some (.ref v0), some (.int v1), some (.int v2), some (.int x7), some (.int x9)] dX0_landing_27 (by decide) rfl ?_
  refine gx_iload dX0_landing_29 rfl ?_
  refine gx_iconst (-1 : Int32) dX0_landing_31 (by decide) ?_
  refine gx_icmp_ne 39 dX0_landing_32 (by decide) (fun _ => ?_) (fun _ => ?_)
  · refine gx_aload_n 0 dX0_landing_39 rfl rfl ?_
    refine gx_iload dX0_landing_40 rfl ?_
    refine gx_iload_n 2 dX0_landing_42 rfl rfl ?_
    refine gx_callV (ci := 0) (bc := 0) (bs := 0) (mc := 0) (ms := 0) (em' := (fun x : Int32 => some (.int x))) [.int x9, .int v2] kc_RX0_59 rfl dX0_landing_43 rfl rfl (gx_w8 rfl) (fun x q => (gx_isO_of (by unfold fX0_leadOf at q; exact q)).2) (fun _ _ q => okX0_leadOf d q) (fun x11 h10 => ?_)
    exact gx_sub (gX0_landing_46 x11 h10) True.intro
  · refine gx_iload_n 3 dX0_landing_35 rfl rfl ?_
    refine gx_goto 46 dX0_landing_36 (by decide) ?_
    exact gx_sub (gX0_landing_46 x7 h8) True.intro
theorem okX0_landing {E : gx_Env} (d : Nat) {v0 : Nat} {v1 : Int32} {v2 : Int32} {h : gx_H} {r : Int32} {h1 : gx_H} (q : fX0_landing v0 v1 v2 h = some (r, h1)) : gx_M E yX0_landing cX0_landing 5 (some .int) (d + 3) 0 0 [.ref v0, .int v1, .int v2] h ((fun x : Int32 => some (.int x)) r) h1 := gx_meth (y := yX0_landing) (cc := cX0_landing) (nL := 5) (em := (fun x : Int32 => some (.int x))) (ini := false) [.ref v0, .int v1, .int v2] (by decide) (by simp [gx_sl]) (fun q => by cases q) (geX0_landing v0 v1 v2 h) q
theorem dX0_remember_0 : decode cX0_remember 0 = .ok (.aload_n 2, 1) := by decide +kernel
theorem dX0_remember_1 : decode cX0_remember 1 = .ok (.iload_n 1, 1) := by decide +kernel
theorem dX0_remember_2 : decode cX0_remember 2 = .ok (.putfield 78, 3) := by decide +kernel
theorem dX0_remember_5 : decode cX0_remember 5 = .ok (.aload_n 2, 1) := by decide +kernel
theorem dX0_remember_6 : decode cX0_remember 6 = .ok (.aload_n 0, 1) := by decide +kernel
theorem dX0_remember_7 : decode cX0_remember 7 = .ok (.getfield 40, 3) := by decide +kernel
theorem dX0_remember_10 : decode cX0_remember 10 = .ok (.iload_n 1, 1) := by decide +kernel
theorem dX0_remember_11 : decode cX0_remember 11 = .ok (.iaload, 1) := by decide +kernel
theorem dX0_remember_12 : decode cX0_remember 12 = .ok (.putfield 81, 3) := by decide +kernel
theorem dX0_remember_15 : decode cX0_remember 15 = .ok (.aload_n 2, 1) := by decide +kernel
theorem dX0_remember_16 : decode cX0_remember 16 = .ok (.aload_n 0, 1) := by decide +kernel
theorem dX0_remember_17 : decode cX0_remember 17 = .ok (.getfield 43, 3) := by decide +kernel
theorem dX0_remember_20 : decode cX0_remember 20 = .ok (.iload_n 1, 1) := by decide +kernel
theorem dX0_remember_21 : decode cX0_remember 21 = .ok (.iaload, 1) := by decide +kernel
theorem dX0_remember_22 : decode cX0_remember 22 = .ok (.putfield 83, 3) := by decide +kernel
theorem dX0_remember_25 : decode cX0_remember 25 = .ok (.aload_n 2, 1) := by decide +kernel
theorem dX0_remember_26 : decode cX0_remember 26 = .ok (.iconst (-1), 1) := by decide +kernel
theorem dX0_remember_27 : decode cX0_remember 27 = .ok (.putfield 66, 3) := by decide +kernel
theorem dX0_remember_30 : decode cX0_remember 30 = .ok (.return_, 1) := by decide +kernel
def fX0_remember (v0 : Nat) (v1 : Int32) (v2 : Nat) (h : gx_H) : Option (Unit × gx_H) :=
  (gx_isO h v0 0).bind fun _ =>
  (gx_pF h v2 6 0 (.int v1)).bind fun h1 =>
  (gx_fR h1 v0 0 9).bind fun a2 =>
  (gx_aI 0 h1 a2 v1).bind fun x3 =>
  (gx_pF h1 v2 6 1 (.int x3)).bind fun h4 =>
  (gx_fR h4 v0 0 10).bind fun a5 =>
  (gx_aI 0 h4 a5 v1).bind fun x6 =>
  (gx_pF h4 v2 6 2 (.int x6)).bind fun h7 =>
  (gx_pF h7 v2 6 3 (.int (-1 : Int32))).bind fun h8 =>
  some ((), h8)
set_option maxRecDepth 100000 in
set_option maxHeartbeats 4000000 in
theorem geX0_remember {E : gx_Env} {d : Nat} (v0 : Nat) (v1 : Int32) (v2 : Nat) (h : gx_H) : gx_G E RX0 cX0_remember 3 none false d 0 0 0 [some (.ref v0), some (.int v1), some (.ref v2)] [] h (fun _ : Unit => none) (fX0_remember v0 v1 v2 h) := by
  unfold fX0_remember
  refine gx_bind fun _ _ => ?_
  refine gx_aload_n 2 dX0_remember_0 rfl rfl ?_
  refine gx_iload_n 1 dX0_remember_1 rfl rfl ?_
  refine gx_putI kp_RX0_78 (fun q => by cases q) dX0_remember_2 (fun h1 => ?_)
  refine gx_aload_n 2 dX0_remember_5 rfl rfl ?_
  refine gx_aload_n 0 dX0_remember_6 rfl rfl ?_
  refine gx_getR kf_RX0_40 dX0_remember_7 (fun a2 => ?_)
  refine gx_iload_n 1 dX0_remember_10 rfl rfl ?_
  refine gx_iald dX0_remember_11 (fun x3 => ?_)
  refine gx_putI kp_RX0_81 (fun q => by cases q) dX0_remember_12 (fun h4 => ?_)
  refine gx_aload_n 2 dX0_remember_15 rfl rfl ?_
  refine gx_aload_n 0 dX0_remember_16 rfl rfl ?_
  refine gx_getR kf_RX0_43 dX0_remember_17 (fun a5 => ?_)
  refine gx_iload_n 1 dX0_remember_20 rfl rfl ?_
  refine gx_iald dX0_remember_21 (fun x6 => ?_)
  refine gx_putI kp_RX0_83 (fun q => by cases q) dX0_remember_22 (fun h7 => ?_)
  refine gx_aload_n 2 dX0_remember_25 rfl rfl ?_
  refine gx_iconst (-1 : Int32) dX0_remember_26 (by decide) ?_
  refine gx_putI kp_RX0_66 (fun q => by cases q) dX0_remember_27 (fun h8 => ?_)
  exact gx_vret dX0_remember_30 rfl
theorem okX0_remember {E : gx_Env} (d : Nat) {v0 : Nat} {v1 : Int32} {v2 : Nat} {h : gx_H} {r : Unit} {h1 : gx_H} (q : fX0_remember v0 v1 v2 h = some (r, h1)) : gx_M E yX0_remember cX0_remember 3 none d 0 0 [.ref v0, .int v1, .ref v2] h ((fun _ : Unit => none) r) h1 := gx_meth (y := yX0_remember) (cc := cX0_remember) (nL := 3) (em := (fun _ : Unit => none)) (ini := false) [.ref v0, .int v1, .ref v2] (by decide) (by simp [gx_sl]) (fun q => by cases q) (geX0_remember v0 v1 v2 h) q
theorem dX0_move_0 : decode cX0_move 0 = .ok (.aload_n 0, 1) := by decide +kernel
theorem dX0_move_1 : decode cX0_move 1 = .ok (.iload_n 1, 1) := by decide +kernel
theorem dX0_move_2 : decode cX0_move 2 = .ok (.aload_n 3, 1) := by decide +kernel
theorem dX0_move_3 : decode cX0_move 3 = .ok (.invokevirtual 62, 3) := by decide +kernel
theorem dX0_move_6 : decode cX0_move 6 = .ok (.aload_n 0, 1) := by decide +kernel
theorem dX0_move_7 : decode cX0_move 7 = .ok (.getfield 37, 3) := by decide +kernel
theorem dX0_move_10 : decode cX0_move 10 = .ok (.iload_n 1, 1) := by decide +kernel
theorem dX0_move_11 : decode cX0_move 11 = .ok (.iaload, 1) := by decide +kernel
theorem dX0_move_12 : decode cX0_move 12 = .ok (.aload_n 0, 1) := by decide +kernel
theorem dX0_move_13 : decode cX0_move 13 = .ok (.getfield 40, 3) := by decide +kernel
theorem dX0_move_16 : decode cX0_move 16 = .ok (.iload_n 1, 1) := by decide +kernel
theorem dX0_move_17 : decode cX0_move 17 = .ok (.iaload, 1) := by decide +kernel
theorem dX0_move_18 : decode cX0_move 18 = .ok (.iload_n 2, 1) := by decide +kernel
theorem dX0_move_19 : decode cX0_move 19 = .ok (.aload_n 0, 1) := by decide +kernel
theorem dX0_move_20 : decode cX0_move 20 = .ok (.getfield 9, 3) := by decide +kernel
theorem dX0_move_23 : decode cX0_move 23 = .ok (.invokestatic 50, 3) := by decide +kernel
theorem dX0_move_26 : decode cX0_move 26 = .ok (.istore 4, 2) := by decide +kernel
theorem dX0_move_28 : decode cX0_move 28 = .ok (.aload_n 0, 1) := by decide +kernel
theorem dX0_move_29 : decode cX0_move 29 = .ok (.iload_n 1, 1) := by decide +kernel
theorem dX0_move_30 : decode cX0_move 30 = .ok (.iload 4, 2) := by decide +kernel
theorem dX0_move_32 : decode cX0_move 32 = .ok (.invokevirtual 55, 3) := by decide +kernel
theorem dX0_move_35 : decode cX0_move 35 = .ok (.istore 5, 2) := by decide +kernel
theorem dX0_move_37 : decode cX0_move 37 = .ok (.aload_n 0, 1) := by decide +kernel
theorem dX0_move_38 : decode cX0_move 38 = .ok (.getfield 40, 3) := by decide +kernel
theorem dX0_move_41 : decode cX0_move 41 = .ok (.iload_n 1, 1) := by decide +kernel
theorem dX0_move_42 : decode cX0_move 42 = .ok (.iload 4, 2) := by decide +kernel
theorem dX0_move_44 : decode cX0_move 44 = .ok (.iastore, 1) := by decide +kernel
theorem dX0_move_45 : decode cX0_move 45 = .ok (.iload 5, 2) := by decide +kernel
theorem dX0_move_47 : decode cX0_move 47 = .ok (.iconst (-1), 1) := by decide +kernel
theorem dX0_move_48 : decode cX0_move 48 = .ok (.if_icmp .eq 54, 3) := by decide +kernel
theorem dX0_move_51 : decode cX0_move 51 = .ok (.aload_n 3, 1) := by decide +kernel
theorem dX0_move_52 : decode cX0_move 52 = .ok (.iload 5, 2) := by decide +kernel
theorem dX0_move_54 : decode cX0_move 54 = .ok (.putfield 66, 3) := by decide +kernel
theorem dX0_move_57 : decode cX0_move 57 = .ok (.aload_n 3, 1) := by decide +kernel
theorem dX0_move_58 : decode cX0_move 58 = .ok (.aload_n 0, 1) := by decide +kernel
theorem dX0_move_59 : decode cX0_move 59 = .ok (.getfield 34, 3) := by decide +kernel
theorem dX0_move_62 : decode cX0_move 62 = .ok (.iload 5, 2) := by decide +kernel
theorem dX0_move_64 : decode cX0_move 64 = .ok (.iaload, 1) := by decide +kernel
theorem dX0_move_65 : decode cX0_move 65 = .ok (.putfield 71, 3) := by decide +kernel
theorem dX0_move_68 : decode cX0_move 68 = .ok (.aload_n 0, 1) := by decide +kernel
theorem dX0_move_69 : decode cX0_move 69 = .ok (.getfield 40, 3) := by decide +kernel
theorem dX0_move_72 : decode cX0_move 72 = .ok (.iload_n 1, 1) := by decide +kernel
theorem dX0_move_73 : decode cX0_move 73 = .ok (.aload_n 0, 1) := by decide +kernel
theorem dX0_move_74 : decode cX0_move 74 = .ok (.iload 5, 2) := by decide +kernel
theorem dX0_move_76 : decode cX0_move 76 = .ok (.iload_n 2, 1) := by decide +kernel
theorem dX0_move_77 : decode cX0_move 77 = .ok (.invokevirtual 59, 3) := by decide +kernel
theorem dX0_move_80 : decode cX0_move 80 = .ok (.iastore, 1) := by decide +kernel
theorem dX0_move_81 : decode cX0_move 81 = .ok (.aload_n 0, 1) := by decide +kernel
theorem dX0_move_82 : decode cX0_move 82 = .ok (.getfield 34, 3) := by decide +kernel
theorem dX0_move_85 : decode cX0_move 85 = .ok (.iload 5, 2) := by decide +kernel
theorem dX0_move_87 : decode cX0_move 87 = .ok (.bipush 99, 2) := by decide +kernel
theorem dX0_move_89 : decode cX0_move 89 = .ok (.aload_n 0, 1) := by decide +kernel
theorem dX0_move_90 : decode cX0_move 90 = .ok (.getfield 34, 3) := by decide +kernel
theorem dX0_move_93 : decode cX0_move 93 = .ok (.iload 5, 2) := by decide +kernel
theorem dX0_move_95 : decode cX0_move 95 = .ok (.iaload, 1) := by decide +kernel
theorem dX0_move_96 : decode cX0_move 96 = .ok (.iconst 1, 1) := by decide +kernel
theorem dX0_move_97 : decode cX0_move 97 = .ok (.iadd, 1) := by decide +kernel
theorem dX0_move_98 : decode cX0_move 98 = .ok (.invokestatic 73, 3) := by decide +kernel
theorem dX0_move_101 : decode cX0_move 101 = .ok (.iastore, 1) := by decide +kernel
theorem dX0_move_102 : decode cX0_move 102 = .ok (.aload_n 0, 1) := by decide +kernel
theorem dX0_move_103 : decode cX0_move 103 = .ok (.getfield 43, 3) := by decide +kernel
theorem dX0_move_106 : decode cX0_move 106 = .ok (.iload_n 1, 1) := by decide +kernel
theorem dX0_move_107 : decode cX0_move 107 = .ok (.sipush 9999, 3) := by decide +kernel
theorem dX0_move_110 : decode cX0_move 110 = .ok (.aload_n 0, 1) := by decide +kernel
theorem dX0_move_111 : decode cX0_move 111 = .ok (.getfield 43, 3) := by decide +kernel
theorem dX0_move_114 : decode cX0_move 114 = .ok (.iload_n 1, 1) := by decide +kernel
theorem dX0_move_115 : decode cX0_move 115 = .ok (.iaload, 1) := by decide +kernel
theorem dX0_move_116 : decode cX0_move 116 = .ok (.iconst 1, 1) := by decide +kernel
theorem dX0_move_117 : decode cX0_move 117 = .ok (.iadd, 1) := by decide +kernel
theorem dX0_move_118 : decode cX0_move 118 = .ok (.invokestatic 73, 3) := by decide +kernel
theorem dX0_move_121 : decode cX0_move 121 = .ok (.iastore, 1) := by decide +kernel
theorem dX0_move_122 : decode cX0_move 122 = .ok (.return_, 1) := by decide +kernel
def fX0_move_102 (v0 : Nat) (v1 : Int32) (h : gx_H) : Option (Unit × gx_H) :=
  (gx_fR h v0 0 10).bind fun a26 =>
  (gx_fR h v0 0 10).bind fun a27 =>
  (gx_aI 0 h a27 v1).bind fun x28 =>
  (gx_sI 0 h a26 v1 (if (x28 + (1 : Int32)) < (9999 : Int32) then (x28 + (1 : Int32)) else (9999 : Int32))).bind fun h29 =>
  some ((), h29)
def fX0_move (v0 : Nat) (v1 : Int32) (v2 : Int32) (v3 : Nat) (h : gx_H) : Option (Unit × gx_H) :=
  (gx_isO h v0 0).bind fun _ =>
  gx_bd (fX0_remember v0 v1 v3 h) fun u2 h1 =>
  (gx_fR h1 v0 0 8).bind fun a3 =>
  (gx_aI 0 h1 a3 v1).bind fun x4 =>
  (gx_fR h1 v0 0 9).bind fun a5 =>
  (gx_aI 0 h1 a5 v1).bind fun x6 =>
  (gx_fI h1 v0 0 0).bind fun x7 =>
  gx_bd (fX6_square x4 x6 v2 x7 h1) fun x9 h8 =>
  gx_bd (fX0_linkMet v0 v1 x9 h8) fun x11 h10 =>
  (gx_fR h10 v0 0 9).bind fun a12 =>
  (gx_sI 0 h10 a12 v1 x9).bind fun h13 =>
  if x11 = (-1 : Int32) then
    fX0_move_102 v0 v1 h13
  else
    (gx_pF h13 v3 6 3 (.int x11)).bind fun h14 =>
    (gx_fR h14 v0 0 7).bind fun a15 =>
    (gx_aI 0 h14 a15 x11).bind fun x16 =>
    (gx_pF h14 v3 6 4 (.int x16)).bind fun h17 =>
    (gx_fR h17 v0 0 9).bind fun a18 =>
    gx_bd (fX0_leadOf v0 x11 v2 h17) fun x20 h19 =>
    (gx_sI 0 h19 a18 v1 x20).bind fun h21 =>
    (gx_fR h21 v0 0 7).bind fun a22 =>
    (gx_fR h21 v0 0 7).bind fun a23 =>
    (gx_aI 0 h21 a23 x11).bind fun x24 =>
    (gx_sI 0 h21 a22 x11 (if (x24 + (1 : Int32)) < (99 : Int32) then (x24 + (1 : Int32)) else (99 : Int32))).bind fun h25 =>
    fX0_move_102 v0 v1 h25
set_option maxRecDepth 100000 in
set_option maxHeartbeats 4000000 in
theorem gX0_move_102 {E : gx_Env} {d : Nat}  : ∀ (v0 : Nat) (v1 : Int32) (h : gx_H), gx_G E RX0 cX0_move 6 none false (d + 3) 0 0 102 [some (.ref v0), some (.int v1), none, none, none, none] [] h (fun _ : Unit => none) (fX0_move_102 v0 v1 h) := by
  intro v0 v1 h
  unfold fX0_move_102
  refine gx_aload_n 0 dX0_move_102 rfl rfl ?_
  refine gx_getR kf_RX0_43 dX0_move_103 (fun a26 => ?_)
  refine gx_iload_n 1 dX0_move_106 rfl rfl ?_
  refine gx_sipush (9999 : Int32) dX0_move_107 (by decide) ?_
  refine gx_aload_n 0 dX0_move_110 rfl rfl ?_
  refine gx_getR kf_RX0_43 dX0_move_111 (fun a27 => ?_)
  refine gx_iload_n 1 dX0_move_114 rfl rfl ?_
  refine gx_iald dX0_move_115 (fun x28 => ?_)
  refine gx_iconst (1 : Int32) dX0_move_116 (by decide) ?_
  refine gx_iadd dX0_move_117 ?_
  refine gx_mmin kk_RX0_73 km_min_s km_i km_min_c dX0_move_118 (gx_w8 rfl) ?_
  refine gx_iast dX0_move_121 (fun h29 => ?_)
  exact gx_vret dX0_move_122 rfl
set_option maxRecDepth 100000 in
set_option maxHeartbeats 4000000 in
theorem geX0_move {E : gx_Env} {d : Nat} (v0 : Nat) (v1 : Int32) (v2 : Int32) (v3 : Nat) (h : gx_H) : gx_G E RX0 cX0_move 6 none false (d + 3) 0 0 0 [some (.ref v0), some (.int v1), some (.int v2), some (.ref v3), none, none] [] h (fun _ : Unit => none) (fX0_move v0 v1 v2 v3 h) := by
  unfold fX0_move
  refine gx_bind fun _ _ => ?_
  refine gx_aload_n 0 dX0_move_0 rfl rfl ?_
  refine gx_iload_n 1 dX0_move_1 rfl rfl ?_
  refine gx_aload_n 3 dX0_move_2 rfl rfl ?_
  refine gx_callV (ci := 0) (bc := 0) (bs := 0) (mc := 0) (ms := 0) (em' := (fun _ : Unit => none)) [.int v1, .ref v3] kc_RX0_62 rfl dX0_move_3 rfl rfl (gx_w8 rfl) (fun x q => (gx_isO_of (by unfold fX0_remember at q; exact q)).2) (fun _ _ q => okX0_remember (d + 2) q) (fun u2 h1 => ?_)
  refine gx_aload_n 0 dX0_move_6 rfl rfl ?_
  refine gx_getR kf_RX0_37 dX0_move_7 (fun a3 => ?_)
  refine gx_iload_n 1 dX0_move_10 rfl rfl ?_
  refine gx_iald dX0_move_11 (fun x4 => ?_)
  refine gx_aload_n 0 dX0_move_12 rfl rfl ?_
  refine gx_getR kf_RX0_40 dX0_move_13 (fun a5 => ?_)
  refine gx_iload_n 1 dX0_move_16 rfl rfl ?_
  refine gx_iald dX0_move_17 (fun x6 => ?_)
  refine gx_iload_n 2 dX0_move_18 rfl rfl ?_
  refine gx_aload_n 0 dX0_move_19 rfl rfl ?_
  refine gx_getI kf_RX0_9 dX0_move_20 (fun x7 => ?_)
  refine gx_callS (bc := 0) (bs := 0) (mc := 0) (ms := 0) (em' := (fun x : Int32 => some (.int x))) [.int x4, .int x6, .int v2, .int x7] kc_RX0_50 dX0_move_23 rfl rfl (gx_w8 rfl) (fun _ _ q => okX6_square (d + 1) q) (fun x9 h8 => ?_)
  refine gx_istore [some (.ref v0), some (.int v1), some (.int v2), some (.ref v3), some (.int x9), none] dX0_move_26 (by decide) rfl ?_
  refine gx_aload_n 0 dX0_move_28 rfl rfl ?_
  refine gx_iload_n 1 dX0_move_29 rfl rfl ?_
  refine gx_iload dX0_move_30 rfl ?_
  refine gx_callV (ci := 0) (bc := 0) (bs := 0) (mc := 0) (ms := 0) (em' := (fun x : Int32 => some (.int x))) [.int v1, .int x9] kc_RX0_55 rfl dX0_move_32 rfl rfl (gx_w8 rfl) (fun x q => (gx_isO_of (by unfold fX0_linkMet at q; exact q)).2) (fun _ _ q => okX0_linkMet (d + 1) q) (fun x11 h10 => ?_)
  refine gx_istore [some (.ref v0), some (.int v1), some (.int v2), some (.ref v3), some (.int x9), some (.int x11)] dX0_move_35 (by decide) rfl ?_
  refine gx_aload_n 0 dX0_move_37 rfl rfl ?_
  refine gx_getR kf_RX0_40 dX0_move_38 (fun a12 => ?_)
  refine gx_iload_n 1 dX0_move_41 rfl rfl ?_
  refine gx_iload dX0_move_42 rfl ?_
  refine gx_iast dX0_move_44 (fun h13 => ?_)
  refine gx_iload dX0_move_45 rfl ?_
  refine gx_iconst (-1 : Int32) dX0_move_47 (by decide) ?_
  refine gx_icmp_eq 102 dX0_move_48 (by decide) (fun _ => ?_) (fun _ => ?_)
  · exact gx_sub (gX0_move_102 v0 v1 h13) (And.intro rfl (And.intro rfl True.intro))
  · refine gx_aload_n 3 dX0_move_51 rfl rfl ?_
    refine gx_iload dX0_move_52 rfl ?_
    refine gx_putI kp_RX0_66 (fun q => by cases q) dX0_move_54 (fun h14 => ?_)
    refine gx_aload_n 3 dX0_move_57 rfl rfl ?_
    refine gx_aload_n 0 dX0_move_58 rfl rfl ?_
    refine gx_getR kf_RX0_34 dX0_move_59 (fun a15 => ?_)
    refine gx_iload dX0_move_62 rfl ?_
    refine gx_iald dX0_move_64 (fun x16 => ?_)
    refine gx_putI kp_RX0_71 (fun q => by cases q) dX0_move_65 (fun h17 => ?_)
    refine gx_aload_n 0 dX0_move_68 rfl rfl ?_
    refine gx_getR kf_RX0_40 dX0_move_69 (fun a18 => ?_)
    refine gx_iload_n 1 dX0_move_72 rfl rfl ?_
    refine gx_aload_n 0 dX0_move_73 rfl rfl ?_
    refine gx_iload dX0_move_74 rfl ?_
    refine gx_iload_n 2 dX0_move_76 rfl rfl ?_
    refine gx_callV (ci := 0) (bc := 0) (bs := 0) (mc := 0) (ms := 0) (em' := (fun x : Int32 => some (.int x))) [.int x11, .int v2] kc_RX0_59 rfl dX0_move_77 rfl rfl (gx_w8 rfl) (fun x q => (gx_isO_of (by unfold fX0_leadOf at q; exact q)).2) (fun _ _ q => okX0_leadOf d q) (fun x20 h19 => ?_)
    refine gx_iast dX0_move_80 (fun h21 => ?_)
    refine gx_aload_n 0 dX0_move_81 rfl rfl ?_
    refine gx_getR kf_RX0_34 dX0_move_82 (fun a22 => ?_)
    refine gx_iload dX0_move_85 rfl ?_
    refine gx_bipush (99 : Int32) dX0_move_87 (by decide) ?_
    refine gx_aload_n 0 dX0_move_89 rfl rfl ?_
    refine gx_getR kf_RX0_34 dX0_move_90 (fun a23 => ?_)
    refine gx_iload dX0_move_93 rfl ?_
    refine gx_iald dX0_move_95 (fun x24 => ?_)
    refine gx_iconst (1 : Int32) dX0_move_96 (by decide) ?_
    refine gx_iadd dX0_move_97 ?_
    refine gx_mmin kk_RX0_73 km_min_s km_i km_min_c dX0_move_98 (gx_w8 rfl) ?_
    refine gx_iast dX0_move_101 (fun h25 => ?_)
    exact gx_sub (gX0_move_102 v0 v1 h25) (And.intro rfl (And.intro rfl True.intro))
theorem okX0_move {E : gx_Env} (d : Nat) {v0 : Nat} {v1 : Int32} {v2 : Int32} {v3 : Nat} {h : gx_H} {r : Unit} {h1 : gx_H} (q : fX0_move v0 v1 v2 v3 h = some (r, h1)) : gx_M E yX0_move cX0_move 6 none (d + 3) 0 0 [.ref v0, .int v1, .int v2, .ref v3] h ((fun _ : Unit => none) r) h1 := gx_meth (y := yX0_move) (cc := cX0_move) (nL := 6) (em := (fun _ : Unit => none)) (ini := false) [.ref v0, .int v1, .int v2, .ref v3] (by decide) (by simp [gx_sl]) (fun q => by cases q) (geX0_move v0 v1 v2 v3 h) q
theorem dX0_takeBack_0 : decode cX0_takeBack 0 = .ok (.aload_n 0, 1) := by decide +kernel
theorem dX0_takeBack_1 : decode cX0_takeBack 1 = .ok (.getfield 40, 3) := by decide +kernel
theorem dX0_takeBack_4 : decode cX0_takeBack 4 = .ok (.aload_n 1, 1) := by decide +kernel
theorem dX0_takeBack_5 : decode cX0_takeBack 5 = .ok (.getfield 78, 3) := by decide +kernel
theorem dX0_takeBack_8 : decode cX0_takeBack 8 = .ok (.aload_n 1, 1) := by decide +kernel
theorem dX0_takeBack_9 : decode cX0_takeBack 9 = .ok (.getfield 81, 3) := by decide +kernel
theorem dX0_takeBack_12 : decode cX0_takeBack 12 = .ok (.iastore, 1) := by decide +kernel
theorem dX0_takeBack_13 : decode cX0_takeBack 13 = .ok (.aload_n 0, 1) := by decide +kernel
theorem dX0_takeBack_14 : decode cX0_takeBack 14 = .ok (.getfield 43, 3) := by decide +kernel
theorem dX0_takeBack_17 : decode cX0_takeBack 17 = .ok (.aload_n 1, 1) := by decide +kernel
theorem dX0_takeBack_18 : decode cX0_takeBack 18 = .ok (.getfield 78, 3) := by decide +kernel
theorem dX0_takeBack_21 : decode cX0_takeBack 21 = .ok (.aload_n 1, 1) := by decide +kernel
theorem dX0_takeBack_22 : decode cX0_takeBack 22 = .ok (.getfield 83, 3) := by decide +kernel
theorem dX0_takeBack_25 : decode cX0_takeBack 25 = .ok (.iastore, 1) := by decide +kernel
theorem dX0_takeBack_26 : decode cX0_takeBack 26 = .ok (.aload_n 1, 1) := by decide +kernel
theorem dX0_takeBack_27 : decode cX0_takeBack 27 = .ok (.getfield 66, 3) := by decide +kernel
theorem dX0_takeBack_30 : decode cX0_takeBack 30 = .ok (.iconst (-1), 1) := by decide +kernel
theorem dX0_takeBack_31 : decode cX0_takeBack 31 = .ok (.if_icmp .eq 16, 3) := by decide +kernel
theorem dX0_takeBack_34 : decode cX0_takeBack 34 = .ok (.aload_n 0, 1) := by decide +kernel
theorem dX0_takeBack_35 : decode cX0_takeBack 35 = .ok (.getfield 34, 3) := by decide +kernel
theorem dX0_takeBack_38 : decode cX0_takeBack 38 = .ok (.aload_n 1, 1) := by decide +kernel
theorem dX0_takeBack_39 : decode cX0_takeBack 39 = .ok (.getfield 66, 3) := by decide +kernel
theorem dX0_takeBack_42 : decode cX0_takeBack 42 = .ok (.aload_n 1, 1) := by decide +kernel
theorem dX0_takeBack_43 : decode cX0_takeBack 43 = .ok (.getfield 71, 3) := by decide +kernel
theorem dX0_takeBack_46 : decode cX0_takeBack 46 = .ok (.iastore, 1) := by decide +kernel
theorem dX0_takeBack_47 : decode cX0_takeBack 47 = .ok (.return_, 1) := by decide +kernel
def fX0_takeBack_47 (h : gx_H) : Option (Unit × gx_H) :=
  some ((), h)
def fX0_takeBack (v0 : Nat) (v1 : Nat) (h : gx_H) : Option (Unit × gx_H) :=
  (gx_isO h v0 0).bind fun _ =>
  (gx_fR h v0 0 9).bind fun a1 =>
  (gx_fI h v1 6 0).bind fun x2 =>
  (gx_fI h v1 6 1).bind fun x3 =>
  (gx_sI 0 h a1 x2 x3).bind fun h4 =>
  (gx_fR h4 v0 0 10).bind fun a5 =>
  (gx_fI h4 v1 6 0).bind fun x6 =>
  (gx_fI h4 v1 6 2).bind fun x7 =>
  (gx_sI 0 h4 a5 x6 x7).bind fun h8 =>
  (gx_fI h8 v1 6 3).bind fun x9 =>
  if x9 = (-1 : Int32) then
    fX0_takeBack_47 h8
  else
    (gx_fR h8 v0 0 7).bind fun a10 =>
    (gx_fI h8 v1 6 3).bind fun x11 =>
    (gx_fI h8 v1 6 4).bind fun x12 =>
    (gx_sI 0 h8 a10 x11 x12).bind fun h13 =>
    fX0_takeBack_47 h13
set_option maxRecDepth 100000 in
set_option maxHeartbeats 4000000 in
theorem gX0_takeBack_47 {E : gx_Env} {d : Nat}  : ∀  (h : gx_H), gx_G E RX0 cX0_takeBack 2 none false d 0 0 47 [none, none] [] h (fun _ : Unit => none) (fX0_takeBack_47 h) := by
  intro  h
  unfold fX0_takeBack_47
  exact gx_vret dX0_takeBack_47 rfl
set_option maxRecDepth 100000 in
set_option maxHeartbeats 4000000 in
theorem geX0_takeBack {E : gx_Env} {d : Nat} (v0 : Nat) (v1 : Nat) (h : gx_H) : gx_G E RX0 cX0_takeBack 2 none false d 0 0 0 [some (.ref v0), some (.ref v1)] [] h (fun _ : Unit => none) (fX0_takeBack v0 v1 h) := by
  unfold fX0_takeBack
  refine gx_bind fun _ _ => ?_
  refine gx_aload_n 0 dX0_takeBack_0 rfl rfl ?_
  refine gx_getR kf_RX0_40 dX0_takeBack_1 (fun a1 => ?_)
  refine gx_aload_n 1 dX0_takeBack_4 rfl rfl ?_
  refine gx_getI kf_RX0_78 dX0_takeBack_5 (fun x2 => ?_)
  refine gx_aload_n 1 dX0_takeBack_8 rfl rfl ?_
  refine gx_getI kf_RX0_81 dX0_takeBack_9 (fun x3 => ?_)
  refine gx_iast dX0_takeBack_12 (fun h4 => ?_)
  refine gx_aload_n 0 dX0_takeBack_13 rfl rfl ?_
  refine gx_getR kf_RX0_43 dX0_takeBack_14 (fun a5 => ?_)
  refine gx_aload_n 1 dX0_takeBack_17 rfl rfl ?_
  refine gx_getI kf_RX0_78 dX0_takeBack_18 (fun x6 => ?_)
  refine gx_aload_n 1 dX0_takeBack_21 rfl rfl ?_
  refine gx_getI kf_RX0_83 dX0_takeBack_22 (fun x7 => ?_)
  refine gx_iast dX0_takeBack_25 (fun h8 => ?_)
  refine gx_aload_n 1 dX0_takeBack_26 rfl rfl ?_
  refine gx_getI kf_RX0_66 dX0_takeBack_27 (fun x9 => ?_)
  refine gx_iconst (-1 : Int32) dX0_takeBack_30 (by decide) ?_
  refine gx_icmp_eq 47 dX0_takeBack_31 (by decide) (fun _ => ?_) (fun _ => ?_)
  · exact gx_sub (gX0_takeBack_47 h8) True.intro
  · refine gx_aload_n 0 dX0_takeBack_34 rfl rfl ?_
    refine gx_getR kf_RX0_34 dX0_takeBack_35 (fun a10 => ?_)
    refine gx_aload_n 1 dX0_takeBack_38 rfl rfl ?_
    refine gx_getI kf_RX0_66 dX0_takeBack_39 (fun x11 => ?_)
    refine gx_aload_n 1 dX0_takeBack_42 rfl rfl ?_
    refine gx_getI kf_RX0_71 dX0_takeBack_43 (fun x12 => ?_)
    refine gx_iast dX0_takeBack_46 (fun h13 => ?_)
    exact gx_sub (gX0_takeBack_47 h13) True.intro
theorem okX0_takeBack {E : gx_Env} (d : Nat) {v0 : Nat} {v1 : Nat} {h : gx_H} {r : Unit} {h1 : gx_H} (q : fX0_takeBack v0 v1 h = some (r, h1)) : gx_M E yX0_takeBack cX0_takeBack 2 none d 0 0 [.ref v0, .ref v1] h ((fun _ : Unit => none) r) h1 := gx_meth (y := yX0_takeBack) (cc := cX0_takeBack) (nL := 2) (em := (fun _ : Unit => none)) (ini := false) [.ref v0, .ref v1] (by decide) (by simp [gx_sl]) (fun q => by cases q) (geX0_takeBack v0 v1 h) q
theorem dX8_init_0 : decode cX8_init 0 = .ok (.aload_n 0, 1) := by decide +kernel
theorem dX8_init_1 : decode cX8_init 1 = .ok (.invokespecial 3, 3) := by decide +kernel
theorem dX8_init_4 : decode cX8_init 4 = .ok (.aload_n 0, 1) := by decide +kernel
theorem dX8_init_5 : decode cX8_init 5 = .ok (.iconst 0, 1) := by decide +kernel
theorem dX8_init_6 : decode cX8_init 6 = .ok (.putfield 9, 3) := by decide +kernel
theorem dX8_init_9 : decode cX8_init 9 = .ok (.aload_n 0, 1) := by decide +kernel
theorem dX8_init_10 : decode cX8_init 10 = .ok (.iconst 0, 1) := by decide +kernel
theorem dX8_init_11 : decode cX8_init 11 = .ok (.putfield 15, 3) := by decide +kernel
theorem dX8_init_14 : decode cX8_init 14 = .ok (.aload_n 0, 1) := by decide +kernel
theorem dX8_init_15 : decode cX8_init 15 = .ok (.iconst 0, 1) := by decide +kernel
theorem dX8_init_16 : decode cX8_init 16 = .ok (.putfield 18, 3) := by decide +kernel
theorem dX8_init_19 : decode cX8_init 19 = .ok (.aload_n 0, 1) := by decide +kernel
theorem dX8_init_20 : decode cX8_init 20 = .ok (.iconst (-1), 1) := by decide +kernel
theorem dX8_init_21 : decode cX8_init 21 = .ok (.putfield 21, 3) := by decide +kernel
theorem dX8_init_24 : decode cX8_init 24 = .ok (.aload_n 0, 1) := by decide +kernel
theorem dX8_init_25 : decode cX8_init 25 = .ok (.iconst 0, 1) := by decide +kernel
theorem dX8_init_26 : decode cX8_init 26 = .ok (.putfield 24, 3) := by decide +kernel
theorem dX8_init_29 : decode cX8_init 29 = .ok (.return_, 1) := by decide +kernel
def fX8_init (v0 : Nat) (h : gx_H) : Option (Unit × gx_H) :=
  (gx_pF h v0 6 0 (.int (0 : Int32))).bind fun h1 =>
  (gx_pF h1 v0 6 1 (.int (0 : Int32))).bind fun h2 =>
  (gx_pF h2 v0 6 2 (.int (0 : Int32))).bind fun h3 =>
  (gx_pF h3 v0 6 3 (.int (-1 : Int32))).bind fun h4 =>
  (gx_pF h4 v0 6 4 (.int (0 : Int32))).bind fun h5 =>
  some ((), h5)
set_option maxRecDepth 100000 in
set_option maxHeartbeats 4000000 in
theorem geX8_init {E : gx_Env} {d : Nat} (v0 : Nat) (h : gx_H) : gx_G E RX8 cX8_init 1 none true (d + 1) 0 0 0 [some (.ref v0)] [] h (fun _ : Unit => none) (fX8_init v0 h) := by
  unfold fX8_init
  refine gx_aload_n 0 dX8_init_0 rfl rfl ?_
  refine gx_obj kk_RX8_3 ko_i ko_c dX8_init_1 (by decide) ?_
  refine gx_aload_n 0 dX8_init_4 rfl rfl ?_
  refine gx_iconst (0 : Int32) dX8_init_5 (by decide) ?_
  refine gx_putI kp_RX8_9 (fun _ => rfl) dX8_init_6 (fun h1 => ?_)
  refine gx_aload_n 0 dX8_init_9 rfl rfl ?_
  refine gx_iconst (0 : Int32) dX8_init_10 (by decide) ?_
  refine gx_putI kp_RX8_15 (fun _ => rfl) dX8_init_11 (fun h2 => ?_)
  refine gx_aload_n 0 dX8_init_14 rfl rfl ?_
  refine gx_iconst (0 : Int32) dX8_init_15 (by decide) ?_
  refine gx_putI kp_RX8_18 (fun _ => rfl) dX8_init_16 (fun h3 => ?_)
  refine gx_aload_n 0 dX8_init_19 rfl rfl ?_
  refine gx_iconst (-1 : Int32) dX8_init_20 (by decide) ?_
  refine gx_putI kp_RX8_21 (fun _ => rfl) dX8_init_21 (fun h4 => ?_)
  refine gx_aload_n 0 dX8_init_24 rfl rfl ?_
  refine gx_iconst (0 : Int32) dX8_init_25 (by decide) ?_
  refine gx_putI kp_RX8_24 (fun _ => rfl) dX8_init_26 (fun h5 => ?_)
  exact gx_vret dX8_init_29 rfl
theorem okX8_init {E : gx_Env} (d : Nat) {v0 : Nat} {h : gx_H} {r : Unit} {h1 : gx_H} (q : fX8_init v0 h = some (r, h1)) : gx_M E yX8_init cX8_init 1 none (d + 1) 0 0 [.ref v0] h ((fun _ : Unit => none) r) h1 := gx_meth (y := yX8_init) (cc := cX8_init) (nL := 1) (em := (fun _ : Unit => none)) (ini := true) [.ref v0] (by decide) (by simp [gx_sl]) (fun _ => rfl) (geX8_init v0 h) q
theorem dX3_manySteps_0 : decode cX3_manySteps 0 = .ok (.iconst 0, 1) := by decide +kernel
theorem dX3_manySteps_1 : decode cX3_manySteps 1 = .ok (.iload_n 0, 1) := by decide +kernel
theorem dX3_manySteps_2 : decode cX3_manySteps 2 = .ok (.invokestatic 23, 3) := by decide +kernel
theorem dX3_manySteps_5 : decode cX3_manySteps 5 = .ok (.anewarray 29, 3) := by decide +kernel
theorem dX3_manySteps_8 : decode cX3_manySteps 8 = .ok (.astore_n 1, 1) := by decide +kernel
theorem dX3_manySteps_9 : decode cX3_manySteps 9 = .ok (.iconst 0, 1) := by decide +kernel
theorem dX3_manySteps_10 : decode cX3_manySteps 10 = .ok (.istore_n 2, 1) := by decide +kernel
theorem dX3_manySteps_11 : decode cX3_manySteps 11 = .ok (.iload_n 2, 1) := by decide +kernel
theorem dX3_manySteps_12 : decode cX3_manySteps 12 = .ok (.aload_n 1, 1) := by decide +kernel
theorem dX3_manySteps_13 : decode cX3_manySteps 13 = .ok (.arraylength, 1) := by decide +kernel
theorem dX3_manySteps_14 : decode cX3_manySteps 14 = .ok (.if_icmp .ge 19, 3) := by decide +kernel
theorem dX3_manySteps_17 : decode cX3_manySteps 17 = .ok (.aload_n 1, 1) := by decide +kernel
theorem dX3_manySteps_18 : decode cX3_manySteps 18 = .ok (.iload_n 2, 1) := by decide +kernel
theorem dX3_manySteps_19 : decode cX3_manySteps 19 = .ok (.new 29, 3) := by decide +kernel
theorem dX3_manySteps_22 : decode cX3_manySteps 22 = .ok (.dup, 1) := by decide +kernel
theorem dX3_manySteps_23 : decode cX3_manySteps 23 = .ok (.invokespecial 31, 3) := by decide +kernel
theorem dX3_manySteps_26 : decode cX3_manySteps 26 = .ok (.aastore, 1) := by decide +kernel
theorem dX3_manySteps_27 : decode cX3_manySteps 27 = .ok (.iinc 2 1, 3) := by decide +kernel
theorem dX3_manySteps_30 : decode cX3_manySteps 30 = .ok (.goto (-19), 3) := by decide +kernel
theorem dX3_manySteps_33 : decode cX3_manySteps 33 = .ok (.aload_n 1, 1) := by decide +kernel
theorem dX3_manySteps_34 : decode cX3_manySteps 34 = .ok (.areturn, 1) := by decide +kernel
def bX3_manySteps_11 (k11 : Nat → Int32 → gx_H → Option (Nat × gx_H)) (v1 : Nat) (v2 : Int32) (h : gx_H) : Option (Nat × gx_H) :=
  (gx_al h v1).bind fun x2 =>
  if x2 ≤ v2 then
    some (v1, h)
  else
    gx_let (gx_new (.inr (6, [.int 0, .int 0, .int 0, .int 0, .int 0])) h) fun h3 =>
    gx_bd (fX8_init h.1 h3) fun u5 h4 =>
    (gx_isO h4 h.1 6).bind fun _ =>
    (gx_sR 3 h4 v1 v2 h.1).bind fun h6 =>
    k11 v1 (v2 + (1 : Int32)) h6
def fX3_manySteps_11 : Nat → Nat → Int32 → gx_H → Option (Nat × gx_H)
  | 0 => fun _ _ _ => none
  | n + 1 => bX3_manySteps_11 (fX3_manySteps_11 n)
def fX3_manySteps (v0 : Int32) (h : gx_H) : Option (Nat × gx_H) :=
  if (if (0 : Int32) < v0 then v0 else (0 : Int32)) < 0 ∨ 8 < ((if (0 : Int32) < v0 then v0 else (0 : Int32))).toNatClampNeg then none else
  gx_let (gx_new (.inl (3, ((if (0 : Int32) < v0 then v0 else (0 : Int32))).toNatClampNeg, .inr (.inr (.inr (.inr (fun _ => none)))))) h) fun h1 =>
  fX3_manySteps_11 9 h.1 (0 : Int32) h1
set_option maxRecDepth 100000 in
set_option maxHeartbeats 4000000 in
theorem gbX3_manySteps_11 {E : gx_Env} {d : Nat} {n : Nat}  (k11 : Nat → Int32 → gx_H → Option (Nat × gx_H)) (hk11 : ∀ (v1 : Nat) (v2 : Int32) (h : gx_H), gx_G E RX3 cX3_manySteps 3 (some (.array (.object "SnakeLadders$Step"))) false (d + 2) n (5 * n) 11 [none, some (.ref v1), some (.int v2)] [] h (fun x : Nat => some (.ref x)) (k11 v1 v2 h))  : ∀ (v1 : Nat) (v2 : Int32) (h : gx_H), gx_G E RX3 cX3_manySteps 3 (some (.array (.object "SnakeLadders$Step"))) false (d + 2) (n + 1) (5 * (n + 1)) 11 [none, some (.ref v1), some (.int v2)] [] h (fun x : Nat => some (.ref x)) (bX3_manySteps_11 k11 v1 v2 h) := by
  intro v1 v2 h
  unfold bX3_manySteps_11
  refine gx_iload_n 2 dX3_manySteps_11 rfl rfl ?_
  refine gx_aload_n 1 dX3_manySteps_12 rfl rfl ?_
  refine gx_alen dX3_manySteps_13 (fun x2 => ?_)
  refine gx_icmp_ge 33 dX3_manySteps_14 (by decide) (fun _ => ?_) (fun _ => ?_)
  · refine gx_aload_n 1 dX3_manySteps_33 rfl rfl ?_
    exact gx_aret dX3_manySteps_34 rfl (by first | exact Or.inl ⟨_, rfl⟩ | exact Or.inr ⟨_, rfl⟩)
  · refine gx_aload_n 1 dX3_manySteps_17 rfl rfl ?_
    refine gx_iload_n 2 dX3_manySteps_18 rfl rfl ?_
    refine gx_newO (bc := n) (bs := (5 * n)) kn_RX3_29 rfl dX3_manySteps_19 ?_
    refine gx_letG ?_
    generalize (gx_new (.inr (6, [.int 0, .int 0, .int 0, .int 0, .int 0])) h) = h3
    refine gx_dup dX3_manySteps_22 rfl ?_
    refine gx_callIN (bc := n) (bs := (5 * n)) (mc := 0) (ms := 0) (em' := (fun _ : Unit => none)) [] kc_RX3_31 dX3_manySteps_23 rfl rfl (gx_w8 rfl) (fun _ _ q => okX8_init d q) (fun u5 h4 => ?_)
    refine gx_aast3 dX3_manySteps_26 (fun h6 => ?_)
    refine gx_iinc (1 : Int32) [none, some (.ref v1), some (.int (v2 + (1 : Int32)))] dX3_manySteps_27 rfl (by decide) (by decide) rfl ?_
    refine gx_goto 11 dX3_manySteps_30 (by decide) ?_
    exact gx_sub (hk11 v1 (v2 + (1 : Int32)) h6) (And.intro rfl (And.intro rfl True.intro))
set_option maxRecDepth 100000 in
set_option maxHeartbeats 4000000 in
theorem gX3_manySteps_11 {E : gx_Env} {d : Nat}  : ∀ (n : Nat) (v1 : Nat) (v2 : Int32) (h : gx_H), gx_G E RX3 cX3_manySteps 3 (some (.array (.object "SnakeLadders$Step"))) false (d + 2) n (5 * n) 11 [none, some (.ref v1), some (.int v2)] [] h (fun x : Nat => some (.ref x)) (fX3_manySteps_11 n v1 v2 h) := by
  intro n
  induction n with
  | zero => intro v1 v2 h; exact gx_none
  | succ n ih => exact gbX3_manySteps_11  (fX3_manySteps_11  n) ih
set_option maxRecDepth 100000 in
set_option maxHeartbeats 4000000 in
theorem geX3_manySteps {E : gx_Env} {d : Nat} (v0 : Int32) (h : gx_H) : gx_G E RX3 cX3_manySteps 3 (some (.array (.object "SnakeLadders$Step"))) false (d + 2) 10 53 0 [some (.int v0), none, none] [] h (fun x : Nat => some (.ref x)) (fX3_manySteps v0 h) := by
  unfold fX3_manySteps
  refine gx_iconst (0 : Int32) dX3_manySteps_0 (by decide) ?_
  refine gx_iload_n 0 dX3_manySteps_1 rfl rfl ?_
  refine gx_mmax kk_RX3_23 km_max_s km_i km_max_c dX3_manySteps_2 (gx_w8 rfl) ?_
  refine gx_newR3 (f := fun _ => none) (bc := 9) (bs := 45) 8 kk_RX3_29 dX3_manySteps_5 (by decide) ?_
  refine gx_letG ?_
  generalize (gx_new (.inl (3, ((if (0 : Int32) < v0 then v0 else (0 : Int32))).toNatClampNeg, .inr (.inr (.inr (.inr (fun _ => none)))))) h) = h1
  refine gx_astore_n 1 [some (.int v0), some (.ref h.1), none] dX3_manySteps_8 rfl (by decide) rfl ?_
  refine gx_iconst (0 : Int32) dX3_manySteps_9 (by decide) ?_
  refine gx_istore_n 2 [some (.int v0), some (.ref h.1), some (.int (0 : Int32))] dX3_manySteps_10 rfl (by decide) rfl ?_
  exact gx_sub (gX3_manySteps_11 9 h.1 (0 : Int32) h1) (And.intro rfl (And.intro rfl True.intro))
theorem okX3_manySteps {E : gx_Env} (d : Nat) {v0 : Int32} {h : gx_H} {r : Nat} {h1 : gx_H} (q : fX3_manySteps v0 h = some (r, h1)) : gx_M E yX3_manySteps cX3_manySteps 3 (some (.array (.object "SnakeLadders$Step"))) (d + 2) 10 53 [.int v0] h ((fun x : Nat => some (.ref x)) r) h1 := gx_meth (y := yX3_manySteps) (cc := cX3_manySteps) (nL := 3) (em := (fun x : Nat => some (.ref x))) (ini := false) [.int v0] (by decide) (by simp [gx_sl]) (fun q => by cases q) (geX3_manySteps v0 h) q
theorem dX3_init_0 : decode cX3_init 0 = .ok (.aload_n 0, 1) := by decide +kernel
theorem dX3_init_1 : decode cX3_init 1 = .ok (.invokespecial 3, 3) := by decide +kernel
theorem dX3_init_4 : decode cX3_init 4 = .ok (.aload_n 0, 1) := by decide +kernel
theorem dX3_init_5 : decode cX3_init 5 = .ok (.iconst 0, 1) := by decide +kernel
theorem dX3_init_6 : decode cX3_init 6 = .ok (.putfield 9, 3) := by decide +kernel
theorem dX3_init_9 : decode cX3_init 9 = .ok (.aload_n 0, 1) := by decide +kernel
theorem dX3_init_10 : decode cX3_init 10 = .ok (.bipush 8, 2) := by decide +kernel
theorem dX3_init_12 : decode cX3_init 12 = .ok (.invokestatic 15, 3) := by decide +kernel
theorem dX3_init_15 : decode cX3_init 15 = .ok (.putfield 19, 3) := by decide +kernel
theorem dX3_init_18 : decode cX3_init 18 = .ok (.return_, 1) := by decide +kernel
def fX3_init (v0 : Nat) (h : gx_H) : Option (Unit × gx_H) :=
  (gx_pF h v0 3 0 (.int (0 : Int32))).bind fun h1 =>
  gx_bd (fX3_manySteps (8 : Int32) h1) fun a3 h2 =>
  (gx_pF h2 v0 3 1 (.ref a3)).bind fun h4 =>
  some ((), h4)
set_option maxRecDepth 100000 in
set_option maxHeartbeats 4000000 in
theorem geX3_init {E : gx_Env} {d : Nat} (v0 : Nat) (h : gx_H) : gx_G E RX3 cX3_init 1 none true (d + 3) 10 53 0 [some (.ref v0)] [] h (fun _ : Unit => none) (fX3_init v0 h) := by
  unfold fX3_init
  refine gx_aload_n 0 dX3_init_0 rfl rfl ?_
  refine gx_obj kk_RX3_3 ko_i ko_c dX3_init_1 (by decide) ?_
  refine gx_aload_n 0 dX3_init_4 rfl rfl ?_
  refine gx_iconst (0 : Int32) dX3_init_5 (by decide) ?_
  refine gx_putI kp_RX3_9 (fun _ => rfl) dX3_init_6 (fun h1 => ?_)
  refine gx_aload_n 0 dX3_init_9 rfl rfl ?_
  refine gx_bipush (8 : Int32) dX3_init_10 (by decide) ?_
  refine gx_callS (bc := 0) (bs := 0) (mc := 10) (ms := 53) (em' := (fun x : Nat => some (.ref x))) [.int (8 : Int32)] kc_RX3_15 dX3_init_12 rfl rfl (gx_w8 rfl) (fun _ _ q => okX3_manySteps d q) (fun a3 h2 => ?_)
  refine gx_putA kp_RX3_19 (fun _ => rfl) dX3_init_15 (fun h4 => ?_)
  exact gx_vret dX3_init_18 rfl
theorem okX3_init {E : gx_Env} (d : Nat) {v0 : Nat} {h : gx_H} {r : Unit} {h1 : gx_H} (q : fX3_init v0 h = some (r, h1)) : gx_M E yX3_init cX3_init 1 none (d + 3) 10 53 [.ref v0] h ((fun _ : Unit => none) r) h1 := gx_meth (y := yX3_init) (cc := cX3_init) (nL := 1) (em := (fun _ : Unit => none)) (ini := true) [.ref v0] (by decide) (by simp [gx_sl]) (fun _ => rfl) (geX3_init v0 h) q
theorem dX7_init_0 : decode cX7_init 0 = .ok (.aload_n 0, 1) := by decide +kernel
theorem dX7_init_1 : decode cX7_init 1 = .ok (.invokespecial 3, 3) := by decide +kernel
theorem dX7_init_4 : decode cX7_init 4 = .ok (.aload_n 0, 1) := by decide +kernel
theorem dX7_init_5 : decode cX7_init 5 = .ok (.iconst 0, 1) := by decide +kernel
theorem dX7_init_6 : decode cX7_init 6 = .ok (.putfield 9, 3) := by decide +kernel
theorem dX7_init_9 : decode cX7_init 9 = .ok (.aload_n 0, 1) := by decide +kernel
theorem dX7_init_10 : decode cX7_init 10 = .ok (.bipush 6, 2) := by decide +kernel
theorem dX7_init_12 : decode cX7_init 12 = .ok (.newarray .int, 2) := by decide +kernel
theorem dX7_init_14 : decode cX7_init 14 = .ok (.putfield 15, 3) := by decide +kernel
theorem dX7_init_17 : decode cX7_init 17 = .ok (.aload_n 0, 1) := by decide +kernel
theorem dX7_init_18 : decode cX7_init 18 = .ok (.bipush 6, 2) := by decide +kernel
theorem dX7_init_20 : decode cX7_init 20 = .ok (.newarray .int, 2) := by decide +kernel
theorem dX7_init_22 : decode cX7_init 22 = .ok (.putfield 19, 3) := by decide +kernel
theorem dX7_init_25 : decode cX7_init 25 = .ok (.aload_n 0, 1) := by decide +kernel
theorem dX7_init_26 : decode cX7_init 26 = .ok (.bipush 6, 2) := by decide +kernel
theorem dX7_init_28 : decode cX7_init 28 = .ok (.newarray .int, 2) := by decide +kernel
theorem dX7_init_30 : decode cX7_init 30 = .ok (.putfield 22, 3) := by decide +kernel
theorem dX7_init_33 : decode cX7_init 33 = .ok (.aload_n 0, 1) := by decide +kernel
theorem dX7_init_34 : decode cX7_init 34 = .ok (.bipush 6, 2) := by decide +kernel
theorem dX7_init_36 : decode cX7_init 36 = .ok (.newarray .int, 2) := by decide +kernel
theorem dX7_init_38 : decode cX7_init 38 = .ok (.putfield 25, 3) := by decide +kernel
theorem dX7_init_41 : decode cX7_init 41 = .ok (.return_, 1) := by decide +kernel
def fX7_init (v0 : Nat) (h : gx_H) : Option (Unit × gx_H) :=
  (gx_pF h v0 5 0 (.int (0 : Int32))).bind fun h1 =>
  gx_let (gx_new (.inl (0, 6, .inl (fun _ => 0))) h1) fun h2 =>
  (gx_pF h2 v0 5 1 (.ref h1.1)).bind fun h3 =>
  gx_let (gx_new (.inl (0, 6, .inl (fun _ => 0))) h3) fun h4 =>
  (gx_pF h4 v0 5 2 (.ref h3.1)).bind fun h5 =>
  gx_let (gx_new (.inl (0, 6, .inl (fun _ => 0))) h5) fun h6 =>
  (gx_pF h6 v0 5 3 (.ref h5.1)).bind fun h7 =>
  gx_let (gx_new (.inl (0, 6, .inl (fun _ => 0))) h7) fun h8 =>
  (gx_pF h8 v0 5 4 (.ref h7.1)).bind fun h9 =>
  some ((), h9)
set_option maxRecDepth 100000 in
set_option maxHeartbeats 4000000 in
theorem geX7_init {E : gx_Env} {d : Nat} (v0 : Nat) (h : gx_H) : gx_G E RX7 cX7_init 1 none true (d + 1) 4 24 0 [some (.ref v0)] [] h (fun _ : Unit => none) (fX7_init v0 h) := by
  unfold fX7_init
  refine gx_aload_n 0 dX7_init_0 rfl rfl ?_
  refine gx_obj kk_RX7_3 ko_i ko_c dX7_init_1 (by decide) ?_
  refine gx_aload_n 0 dX7_init_4 rfl rfl ?_
  refine gx_iconst (0 : Int32) dX7_init_5 (by decide) ?_
  refine gx_putI kp_RX7_9 (fun _ => rfl) dX7_init_6 (fun h1 => ?_)
  refine gx_aload_n 0 dX7_init_9 rfl rfl ?_
  refine gx_bipush (6 : Int32) dX7_init_10 (by decide) ?_
  refine gx_newA0 (bc := 3) (bs := 18) 6 ka_int dX7_init_12 (by decide) (by decide) (by decide) ?_
  refine gx_letG ?_
  generalize (gx_new (.inl (0, 6, .inl (fun _ => 0))) h1) = h2
  refine gx_putA kp_RX7_15 (fun _ => rfl) dX7_init_14 (fun h3 => ?_)
  refine gx_aload_n 0 dX7_init_17 rfl rfl ?_
  refine gx_bipush (6 : Int32) dX7_init_18 (by decide) ?_
  refine gx_newA0 (bc := 2) (bs := 12) 6 ka_int dX7_init_20 (by decide) (by decide) (by decide) ?_
  refine gx_letG ?_
  generalize (gx_new (.inl (0, 6, .inl (fun _ => 0))) h3) = h4
  refine gx_putA kp_RX7_19 (fun _ => rfl) dX7_init_22 (fun h5 => ?_)
  refine gx_aload_n 0 dX7_init_25 rfl rfl ?_
  refine gx_bipush (6 : Int32) dX7_init_26 (by decide) ?_
  refine gx_newA0 (bc := 1) (bs := 6) 6 ka_int dX7_init_28 (by decide) (by decide) (by decide) ?_
  refine gx_letG ?_
  generalize (gx_new (.inl (0, 6, .inl (fun _ => 0))) h5) = h6
  refine gx_putA kp_RX7_22 (fun _ => rfl) dX7_init_30 (fun h7 => ?_)
  refine gx_aload_n 0 dX7_init_33 rfl rfl ?_
  refine gx_bipush (6 : Int32) dX7_init_34 (by decide) ?_
  refine gx_newA0 (bc := 0) (bs := 0) 6 ka_int dX7_init_36 (by decide) (by decide) (by decide) ?_
  refine gx_letG ?_
  generalize (gx_new (.inl (0, 6, .inl (fun _ => 0))) h7) = h8
  refine gx_putA kp_RX7_25 (fun _ => rfl) dX7_init_38 (fun h9 => ?_)
  exact gx_vret dX7_init_41 rfl
theorem okX7_init {E : gx_Env} (d : Nat) {v0 : Nat} {h : gx_H} {r : Unit} {h1 : gx_H} (q : fX7_init v0 h = some (r, h1)) : gx_M E yX7_init cX7_init 1 none (d + 1) 4 24 [.ref v0] h ((fun _ : Unit => none) r) h1 := gx_meth (y := yX7_init) (cc := cX7_init) (nL := 1) (em := (fun _ : Unit => none)) (ini := true) [.ref v0] (by decide) (by simp [gx_sl]) (fun _ => rfl) (geX7_init v0 h) q
theorem dX1_init_0 : decode cX1_init 0 = .ok (.aload_n 0, 1) := by decide +kernel
theorem dX1_init_1 : decode cX1_init 1 = .ok (.invokespecial 1, 3) := by decide +kernel
theorem dX1_init_4 : decode cX1_init 4 = .ok (.aload_n 0, 1) := by decide +kernel
theorem dX1_init_5 : decode cX1_init 5 = .ok (.new 7, 3) := by decide +kernel
theorem dX1_init_8 : decode cX1_init 8 = .ok (.dup, 1) := by decide +kernel
theorem dX1_init_9 : decode cX1_init 9 = .ok (.invokespecial 9, 3) := by decide +kernel
theorem dX1_init_12 : decode cX1_init 12 = .ok (.putfield 10, 3) := by decide +kernel
theorem dX1_init_15 : decode cX1_init 15 = .ok (.aload_n 0, 1) := by decide +kernel
theorem dX1_init_16 : decode cX1_init 16 = .ok (.new 16, 3) := by decide +kernel
theorem dX1_init_19 : decode cX1_init 19 = .ok (.dup, 1) := by decide +kernel
theorem dX1_init_20 : decode cX1_init 20 = .ok (.invokespecial 18, 3) := by decide +kernel
theorem dX1_init_23 : decode cX1_init 23 = .ok (.putfield 19, 3) := by decide +kernel
theorem dX1_init_26 : decode cX1_init 26 = .ok (.aload_n 0, 1) := by decide +kernel
theorem dX1_init_27 : decode cX1_init 27 = .ok (.new 23, 3) := by decide +kernel
theorem dX1_init_30 : decode cX1_init 30 = .ok (.dup, 1) := by decide +kernel
theorem dX1_init_31 : decode cX1_init 31 = .ok (.invokespecial 25, 3) := by decide +kernel
theorem dX1_init_34 : decode cX1_init 34 = .ok (.putfield 26, 3) := by decide +kernel
theorem dX1_init_37 : decode cX1_init 37 = .ok (.aload_n 0, 1) := by decide +kernel
theorem dX1_init_38 : decode cX1_init 38 = .ok (.new 23, 3) := by decide +kernel
theorem dX1_init_41 : decode cX1_init 41 = .ok (.dup, 1) := by decide +kernel
theorem dX1_init_42 : decode cX1_init 42 = .ok (.invokespecial 25, 3) := by decide +kernel
theorem dX1_init_45 : decode cX1_init 45 = .ok (.putfield 30, 3) := by decide +kernel
theorem dX1_init_48 : decode cX1_init 48 = .ok (.return_, 1) := by decide +kernel
def fX1_init (v0 : Nat) (h : gx_H) : Option (Unit × gx_H) :=
  gx_let (gx_new (.inr (0, [.int 0, .int 0, .int 0, .int 0, .null, .null, .null, .null, .null, .null, .null])) h) fun h1 =>
  gx_bd (fX0_init h.1 h1) fun u3 h2 =>
  (gx_pF h2 v0 1 0 (.ref h.1)).bind fun h4 =>
  gx_let (gx_new (.inr (3, [.int 0, .null])) h4) fun h5 =>
  gx_bd (fX3_init h4.1 h5) fun u7 h6 =>
  (gx_pF h6 v0 1 1 (.ref h4.1)).bind fun h8 =>
  gx_let (gx_new (.inr (5, [.int 0, .null, .null, .null, .null])) h8) fun h9 =>
  gx_bd (fX7_init h8.1 h9) fun u11 h10 =>
  (gx_pF h10 v0 1 2 (.ref h8.1)).bind fun h12 =>
  gx_let (gx_new (.inr (5, [.int 0, .null, .null, .null, .null])) h12) fun h13 =>
  gx_bd (fX7_init h12.1 h13) fun u15 h14 =>
  (gx_pF h14 v0 1 3 (.ref h12.1)).bind fun h16 =>
  some ((), h16)
set_option maxRecDepth 100000 in
set_option maxHeartbeats 4000000 in
theorem geX1_init {E : gx_Env} {d : Nat} (v0 : Nat) (h : gx_H) : gx_G E RX1 cX1_init 1 none true (d + 4) 29 160 0 [some (.ref v0)] [] h (fun _ : Unit => none) (fX1_init v0 h) := by
  unfold fX1_init
  refine gx_aload_n 0 dX1_init_0 rfl rfl ?_
  refine gx_obj kk_RX1_1 ko_i ko_c dX1_init_1 (by decide) ?_
  refine gx_aload_n 0 dX1_init_4 rfl rfl ?_
  refine gx_newO (bc := 28) (bs := 149) kn_RX1_7 rfl dX1_init_5 ?_
  refine gx_letG ?_
  generalize (gx_new (.inr (0, [.int 0, .int 0, .int 0, .int 0, .null, .null, .null, .null, .null, .null, .null])) h) = h1
  refine gx_dup dX1_init_8 rfl ?_
  refine gx_callIN (bc := 21) (bs := 113) (mc := 7) (ms := 36) (em' := (fun _ : Unit => none)) [] kc_RX1_9 dX1_init_9 rfl rfl (gx_w8 rfl) (fun _ _ q => okX0_init (d + 2) q) (fun u3 h2 => ?_)
  refine gx_putO kp_RX1_10 (fun _ => rfl) dX1_init_12 (fun h4 => ?_)
  refine gx_aload_n 0 dX1_init_15 rfl rfl ?_
  refine gx_newO (bc := 20) (bs := 111) kn_RX1_16 rfl dX1_init_16 ?_
  refine gx_letG ?_
  generalize (gx_new (.inr (3, [.int 0, .null])) h4) = h5
  refine gx_dup dX1_init_19 rfl ?_
  refine gx_callIN (bc := 10) (bs := 58) (mc := 10) (ms := 53) (em' := (fun _ : Unit => none)) [] kc_RX1_18 dX1_init_20 rfl rfl (gx_w8 rfl) (fun _ _ q => okX3_init d q) (fun u7 h6 => ?_)
  refine gx_putO kp_RX1_19 (fun _ => rfl) dX1_init_23 (fun h8 => ?_)
  refine gx_aload_n 0 dX1_init_26 rfl rfl ?_
  refine gx_newO (bc := 9) (bs := 53) kn_RX1_23 rfl dX1_init_27 ?_
  refine gx_letG ?_
  generalize (gx_new (.inr (5, [.int 0, .null, .null, .null, .null])) h8) = h9
  refine gx_dup dX1_init_30 rfl ?_
  refine gx_callIN (bc := 5) (bs := 29) (mc := 4) (ms := 24) (em' := (fun _ : Unit => none)) [] kc_RX1_25 dX1_init_31 rfl rfl (gx_w8 rfl) (fun _ _ q => okX7_init (d + 2) q) (fun u11 h10 => ?_)
  refine gx_putO kp_RX1_26 (fun _ => rfl) dX1_init_34 (fun h12 => ?_)
  refine gx_aload_n 0 dX1_init_37 rfl rfl ?_
  refine gx_newO (bc := 4) (bs := 24) kn_RX1_23 rfl dX1_init_38 ?_
  refine gx_letG ?_
  generalize (gx_new (.inr (5, [.int 0, .null, .null, .null, .null])) h12) = h13
  refine gx_dup dX1_init_41 rfl ?_
  refine gx_callIN (bc := 0) (bs := 0) (mc := 4) (ms := 24) (em' := (fun _ : Unit => none)) [] kc_RX1_25 dX1_init_42 rfl rfl (gx_w8 rfl) (fun _ _ q => okX7_init (d + 2) q) (fun u15 h14 => ?_)
  refine gx_putO kp_RX1_30 (fun _ => rfl) dX1_init_45 (fun h16 => ?_)
  exact gx_vret dX1_init_48 rfl
theorem okX1_init {E : gx_Env} (d : Nat) {v0 : Nat} {h : gx_H} {r : Unit} {h1 : gx_H} (q : fX1_init v0 h = some (r, h1)) : gx_M E yX1_init cX1_init 1 none (d + 4) 29 160 [.ref v0] h ((fun _ : Unit => none) r) h1 := gx_meth (y := yX1_init) (cc := cX1_init) (nL := 1) (em := (fun _ : Unit => none)) (ini := true) [.ref v0] (by decide) (by simp [gx_sl]) (fun _ => rfl) (geX1_init v0 h) q
theorem dX3_empty_0 : decode cX3_empty 0 = .ok (.aload_n 0, 1) := by decide +kernel
theorem dX3_empty_1 : decode cX3_empty 1 = .ok (.iconst 0, 1) := by decide +kernel
theorem dX3_empty_2 : decode cX3_empty 2 = .ok (.putfield 9, 3) := by decide +kernel
theorem dX3_empty_5 : decode cX3_empty 5 = .ok (.return_, 1) := by decide +kernel
def fX3_empty (v0 : Nat) (h : gx_H) : Option (Unit × gx_H) :=
  (gx_isO h v0 3).bind fun _ =>
  (gx_pF h v0 3 0 (.int (0 : Int32))).bind fun h1 =>
  some ((), h1)
set_option maxRecDepth 100000 in
set_option maxHeartbeats 4000000 in
theorem geX3_empty {E : gx_Env} {d : Nat} (v0 : Nat) (h : gx_H) : gx_G E RX3 cX3_empty 1 none false d 0 0 0 [some (.ref v0)] [] h (fun _ : Unit => none) (fX3_empty v0 h) := by
  unfold fX3_empty
  refine gx_bind fun _ _ => ?_
  refine gx_aload_n 0 dX3_empty_0 rfl rfl ?_
  refine gx_iconst (0 : Int32) dX3_empty_1 (by decide) ?_
  refine gx_putI kp_RX3_9 (fun q => by cases q) dX3_empty_2 (fun h1 => ?_)
  exact gx_vret dX3_empty_5 rfl
theorem okX3_empty {E : gx_Env} (d : Nat) {v0 : Nat} {h : gx_H} {r : Unit} {h1 : gx_H} (q : fX3_empty v0 h = some (r, h1)) : gx_M E yX3_empty cX3_empty 1 none d 0 0 [.ref v0] h ((fun _ : Unit => none) r) h1 := gx_meth (y := yX3_empty) (cc := cX3_empty) (nL := 1) (em := (fun _ : Unit => none)) (ini := false) [.ref v0] (by decide) (by simp [gx_sl]) (fun q => by cases q) (geX3_empty v0 h) q
theorem dX7_empty_0 : decode cX7_empty 0 = .ok (.aload_n 0, 1) := by decide +kernel
theorem dX7_empty_1 : decode cX7_empty 1 = .ok (.getfield 9, 3) := by decide +kernel
theorem dX7_empty_4 : decode cX7_empty 4 = .ok (.istore_n 1, 1) := by decide +kernel
theorem dX7_empty_5 : decode cX7_empty 5 = .ok (.aload_n 0, 1) := by decide +kernel
theorem dX7_empty_6 : decode cX7_empty 6 = .ok (.iconst 0, 1) := by decide +kernel
theorem dX7_empty_7 : decode cX7_empty 7 = .ok (.putfield 9, 3) := by decide +kernel
theorem dX7_empty_10 : decode cX7_empty 10 = .ok (.iload_n 1, 1) := by decide +kernel
theorem dX7_empty_11 : decode cX7_empty 11 = .ok (.ireturn, 1) := by decide +kernel
def fX7_empty (v0 : Nat) (h : gx_H) : Option (Int32 × gx_H) :=
  (gx_isO h v0 5).bind fun _ =>
  (gx_fI h v0 5 0).bind fun x1 =>
  (gx_pF h v0 5 0 (.int (0 : Int32))).bind fun h2 =>
  some (x1, h2)
set_option maxRecDepth 100000 in
set_option maxHeartbeats 4000000 in
theorem geX7_empty {E : gx_Env} {d : Nat} (v0 : Nat) (h : gx_H) : gx_G E RX7 cX7_empty 2 (some .int) false d 0 0 0 [some (.ref v0), none] [] h (fun x : Int32 => some (.int x)) (fX7_empty v0 h) := by
  unfold fX7_empty
  refine gx_bind fun _ _ => ?_
  refine gx_aload_n 0 dX7_empty_0 rfl rfl ?_
  refine gx_getI kf_RX7_9 dX7_empty_1 (fun x1 => ?_)
  refine gx_istore_n 1 [some (.ref v0), some (.int x1)] dX7_empty_4 rfl (by decide) rfl ?_
  refine gx_aload_n 0 dX7_empty_5 rfl rfl ?_
  refine gx_iconst (0 : Int32) dX7_empty_6 (by decide) ?_
  refine gx_putI kp_RX7_9 (fun q => by cases q) dX7_empty_7 (fun h2 => ?_)
  refine gx_iload_n 1 dX7_empty_10 rfl rfl ?_
  exact gx_iret dX7_empty_11 rfl
theorem okX7_empty {E : gx_Env} (d : Nat) {v0 : Nat} {h : gx_H} {r : Int32} {h1 : gx_H} (q : fX7_empty v0 h = some (r, h1)) : gx_M E yX7_empty cX7_empty 2 (some .int) d 0 0 [.ref v0] h ((fun x : Int32 => some (.int x)) r) h1 := gx_meth (y := yX7_empty) (cc := cX7_empty) (nL := 2) (em := (fun x : Int32 => some (.int x))) (ini := false) [.ref v0] (by decide) (by simp [gx_sl]) (fun q => by cases q) (geX7_empty v0 h) q
