theorem dX10_ahead_0 : decode cX10_ahead 0 = .ok (.aload_n 0, 1) := by decide +kernel
theorem dX10_ahead_1 : decode cX10_ahead 1 = .ok (.iload_n 1, 1) := by decide +kernel
theorem dX10_ahead_2 : decode cX10_ahead 2 = .ok (.iload_n 2, 1) := by decide +kernel
theorem dX10_ahead_3 : decode cX10_ahead 3 = .ok (.invokevirtual 219, 3) := by decide +kernel
theorem dX10_ahead_6 : decode cX10_ahead 6 = .ok (.ifCond .eq 12, 3) := by decide +kernel
theorem dX10_ahead_9 : decode cX10_ahead 9 = .ok (.iload_n 3, 1) := by decide +kernel
theorem dX10_ahead_10 : decode cX10_ahead 10 = .ok (.iconst 0, 1) := by decide +kernel
theorem dX10_ahead_11 : decode cX10_ahead 11 = .ok (.iconst 2, 1) := by decide +kernel
theorem dX10_ahead_12 : decode cX10_ahead 12 = .ok (.invokestatic 62, 3) := by decide +kernel
theorem dX10_ahead_15 : decode cX10_ahead 15 = .ok (.ifCond .ne 10, 3) := by decide +kernel
theorem dX10_ahead_18 : decode cX10_ahead 18 = .ok (.aload_n 0, 1) := by decide +kernel
theorem dX10_ahead_19 : decode cX10_ahead 19 = .ok (.bipush (-2), 2) := by decide +kernel
theorem dX10_ahead_21 : decode cX10_ahead 21 = .ok (.invokevirtual 66, 3) := by decide +kernel
theorem dX10_ahead_24 : decode cX10_ahead 24 = .ok (.ireturn, 1) := by decide +kernel
theorem dX10_ahead_25 : decode cX10_ahead 25 = .ok (.aload_n 0, 1) := by decide +kernel
theorem dX10_ahead_26 : decode cX10_ahead 26 = .ok (.getfield 34, 3) := by decide +kernel
theorem dX10_ahead_29 : decode cX10_ahead 29 = .ok (.aload_n 0, 1) := by decide +kernel
theorem dX10_ahead_30 : decode cX10_ahead 30 = .ok (.getfield 10, 3) := by decide +kernel
theorem dX10_ahead_33 : decode cX10_ahead 33 = .ok (.getfield 70, 3) := by decide +kernel
theorem dX10_ahead_36 : decode cX10_ahead 36 = .ok (.iload_n 1, 1) := by decide +kernel
theorem dX10_ahead_37 : decode cX10_ahead 37 = .ok (.iload_n 2, 1) := by decide +kernel
theorem dX10_ahead_38 : decode cX10_ahead 38 = .ok (.iload_n 3, 1) := by decide +kernel
theorem dX10_ahead_39 : decode cX10_ahead 39 = .ok (.invokevirtual 223, 3) := by decide +kernel
theorem dX10_ahead_42 : decode cX10_ahead 42 = .ok (.istore 4, 2) := by decide +kernel
theorem dX10_ahead_44 : decode cX10_ahead 44 = .ok (.aload_n 0, 1) := by decide +kernel
theorem dX10_ahead_45 : decode cX10_ahead 45 = .ok (.iload 4, 2) := by decide +kernel
theorem dX10_ahead_47 : decode cX10_ahead 47 = .ok (.i2l, 1) := by decide +kernel
theorem dX10_ahead_48 : decode cX10_ahead 48 = .ok (.aload_n 0, 1) := by decide +kernel
theorem dX10_ahead_49 : decode cX10_ahead 49 = .ok (.getfield 10, 3) := by decide +kernel
theorem dX10_ahead_52 : decode cX10_ahead 52 = .ok (.getfield 70, 3) := by decide +kernel
theorem dX10_ahead_55 : decode cX10_ahead 55 = .ok (.getfield 86, 3) := by decide +kernel
theorem dX10_ahead_58 : decode cX10_ahead 58 = .ok (.iconst 2, 1) := by decide +kernel
theorem dX10_ahead_59 : decode cX10_ahead 59 = .ok (.iload_n 3, 1) := by decide +kernel
theorem dX10_ahead_60 : decode cX10_ahead 60 = .ok (.imul, 1) := by decide +kernel
theorem dX10_ahead_61 : decode cX10_ahead 61 = .ok (.invokestatic 208, 3) := by decide +kernel
theorem dX10_ahead_64 : decode cX10_ahead 64 = .ok (.i2l, 1) := by decide +kernel
theorem dX10_ahead_65 : decode cX10_ahead 65 = .ok (.invokevirtual 211, 3) := by decide +kernel
theorem dX10_ahead_68 : decode cX10_ahead 68 = .ok (.ireturn, 1) := by decide +kernel
def fX10_ahead_18 (v0 : Nat) (h : gx_H) : Option (Int32 × gx_H) :=
  gx_bd (fX10_refuse v0 (-2 : Int32) h) fun x18 h17 =>
  some (x18, h17)
def fX10_ahead (v0 : Nat) (v1 : Int32) (v2 : Int32) (v3 : Int32) (h : gx_H) : Option (Int32 × gx_H) :=
  (gx_isO h v0 8).bind fun _ =>
  gx_bd (fX10_areUnlikePlayers v0 v1 v2 h) fun x2 h1 =>
  if x2 = 0 then
    fX10_ahead_18 v0 h1
  else
    gx_bd (fX10_within v3 (0 : Int32) (2 : Int32) h1) fun x4 h3 =>
    if x4 = 0 then
      fX10_ahead_18 v0 h3
    else
      (gx_fR h3 v0 8 4).bind fun a5 =>
      (gx_fR h3 v0 8 0).bind fun a6 =>
      (gx_fR h3 a6 1 0).bind fun a7 =>
      gx_bd (fX5_rowsAhead a5 a7 v1 v2 v3 h3) fun x9 h8 =>
      (gx_fR h8 v0 8 0).bind fun a10 =>
      (gx_fR h8 a10 1 0).bind fun a11 =>
      (gx_fI h8 a11 0 1).bind fun x12 =>
      gx_bd (fX10_power x12 ((2 : Int32) * v3) h8) fun x14 h13 =>
      gx_bd (fX10_keepFraction v0 ((x9).toInt64) ((x14).toInt64) h13) fun x16 h15 =>
      some (x16, h15)
set_option maxRecDepth 100000 in
set_option maxHeartbeats 4000000 in
theorem gX10_ahead_18 {E : gx_Env} {d : Nat}  : ∀ (v0 : Nat) (h : gx_H), gx_G E RX10 cX10_ahead 5 (some .int) false (d + 13) 0 0 18 [some (.ref v0), none, none, none, none] [] h (fun x : Int32 => some (.int x)) (fX10_ahead_18 v0 h) := by
  intro v0 h
  unfold fX10_ahead_18
  refine gx_aload_n 0 dX10_ahead_18 rfl rfl ?_
  refine gx_bipush (-2 : Int32) dX10_ahead_19 (by decide) ?_
  refine gx_callV (ci := 8) (bc := 0) (bs := 0) (mc := 0) (ms := 0) (em' := (fun x : Int32 => some (.int x))) [.int (-2 : Int32)] kc_RX10_66 rfl dX10_ahead_21 rfl rfl (gx_w8 rfl) (fun x q => (gx_isO_of (by unfold fX10_refuse at q; exact q)).2) (fun _ _ q => okX10_refuse (d + 12) q) (fun x18 h17 => ?_)
  exact gx_iret dX10_ahead_24 rfl
set_option maxRecDepth 100000 in
set_option maxHeartbeats 4000000 in
theorem geX10_ahead {E : gx_Env} {d : Nat} (v0 : Nat) (v1 : Int32) (v2 : Int32) (v3 : Int32) (h : gx_H) : gx_G E RX10 cX10_ahead 5 (some .int) false (d + 13) 0 0 0 [some (.ref v0), some (.int v1), some (.int v2), some (.int v3), none] [] h (fun x : Int32 => some (.int x)) (fX10_ahead v0 v1 v2 v3 h) := by
  unfold fX10_ahead
  refine gx_bind fun _ _ => ?_
  refine gx_aload_n 0 dX10_ahead_0 rfl rfl ?_
  refine gx_iload_n 1 dX10_ahead_1 rfl rfl ?_
  refine gx_iload_n 2 dX10_ahead_2 rfl rfl ?_
  refine gx_callV (ci := 8) (bc := 0) (bs := 0) (mc := 0) (ms := 0) (em' := (fun x : Int32 => some (.int x))) [.int v1, .int v2] kc_RX10_219 rfl dX10_ahead_3 rfl rfl (gx_w8 rfl) (fun x q => (gx_isO_of (by unfold fX10_areUnlikePlayers at q; exact q)).2) (fun _ _ q => okX10_areUnlikePlayers (d + 10) q) (fun x2 h1 => ?_)
  refine gx_if_eq 18 dX10_ahead_6 (by decide) (fun _ => ?_) (fun _ => ?_)
  · exact gx_sub (gX10_ahead_18 v0 h1) (And.intro rfl True.intro)
  · refine gx_iload_n 3 dX10_ahead_9 rfl rfl ?_
    refine gx_iconst (0 : Int32) dX10_ahead_10 (by decide) ?_
    refine gx_iconst (2 : Int32) dX10_ahead_11 (by decide) ?_
    refine gx_callS (bc := 0) (bs := 0) (mc := 0) (ms := 0) (em' := (fun x : Int32 => some (.int x))) [.int v3, .int (0 : Int32), .int (2 : Int32)] kc_RX10_62 dX10_ahead_12 rfl rfl (gx_w8 rfl) (fun _ _ q => okX10_within (d + 12) q) (fun x4 h3 => ?_)
    refine gx_if_ne 25 dX10_ahead_15 (by decide) (fun _ => ?_) (fun _ => ?_)
    · refine gx_aload_n 0 dX10_ahead_25 rfl rfl ?_
      refine gx_getR kf_RX10_34 dX10_ahead_26 (fun a5 => ?_)
      refine gx_aload_n 0 dX10_ahead_29 rfl rfl ?_
      refine gx_getR kf_RX10_10 dX10_ahead_30 (fun a6 => ?_)
      refine gx_getR kf_RX10_70 dX10_ahead_33 (fun a7 => ?_)
      refine gx_iload_n 1 dX10_ahead_36 rfl rfl ?_
      refine gx_iload_n 2 dX10_ahead_37 rfl rfl ?_
      refine gx_iload_n 3 dX10_ahead_38 rfl rfl ?_
      refine gx_callV (ci := 4) (bc := 0) (bs := 0) (mc := 0) (ms := 0) (em' := (fun x : Int32 => some (.int x))) [.ref a7, .int v1, .int v2, .int v3] kc_RX10_223 rfl dX10_ahead_39 rfl rfl (gx_w8 rfl) (fun x q => (gx_isO_of (by unfold fX5_rowsAhead at q; exact q)).2) (fun _ _ q => okX5_rowsAhead d q) (fun x9 h8 => ?_)
      refine gx_istore [some (.ref v0), some (.int v1), some (.int v2), some (.int v3), some (.int x9)] dX10_ahead_42 (by decide) rfl ?_
      refine gx_aload_n 0 dX10_ahead_44 rfl rfl ?_
      refine gx_iload dX10_ahead_45 rfl ?_
      refine gx_i2l dX10_ahead_47 ?_
      refine gx_aload_n 0 dX10_ahead_48 rfl rfl ?_
      refine gx_getR kf_RX10_10 dX10_ahead_49 (fun a10 => ?_)
      refine gx_getR kf_RX10_70 dX10_ahead_52 (fun a11 => ?_)
      refine gx_getI kf_RX10_86 dX10_ahead_55 (fun x12 => ?_)
      refine gx_iconst (2 : Int32) dX10_ahead_58 (by decide) ?_
      refine gx_iload_n 3 dX10_ahead_59 rfl rfl ?_
      refine gx_imul dX10_ahead_60 ?_
      refine gx_callS (bc := 0) (bs := 0) (mc := 0) (ms := 0) (em' := (fun x : Int32 => some (.int x))) [.int x12, .int ((2 : Int32) * v3)] kc_RX10_208 dX10_ahead_61 rfl rfl (gx_w8 rfl) (fun _ _ q => okX10_power (d + 12) q) (fun x14 h13 => ?_)
      refine gx_i2l dX10_ahead_64 ?_
      refine gx_callV (ci := 8) (bc := 0) (bs := 0) (mc := 0) (ms := 0) (em' := (fun x : Int32 => some (.int x))) [.long ((x9).toInt64), .long ((x14).toInt64)] kc_RX10_211 rfl dX10_ahead_65 rfl rfl (gx_w8 rfl) (fun x q => (gx_isO_of (by unfold fX10_keepFraction at q; exact q)).2) (fun _ _ q => okX10_keepFraction (d + 11) q) (fun x16 h15 => ?_)
      exact gx_iret dX10_ahead_68 rfl
    · exact gx_sub (gX10_ahead_18 v0 h3) (And.intro rfl True.intro)
theorem okX10_ahead {E : gx_Env} (d : Nat) {v0 : Nat} {v1 : Int32} {v2 : Int32} {v3 : Int32} {h : gx_H} {r : Int32} {h1 : gx_H} (q : fX10_ahead v0 v1 v2 v3 h = some (r, h1)) : gx_M E yX10_ahead cX10_ahead 5 (some .int) (d + 13) 0 0 [.ref v0, .int v1, .int v2, .int v3] h ((fun x : Int32 => some (.int x)) r) h1 := gx_meth (y := yX10_ahead) (cc := cX10_ahead) (nL := 5) (em := (fun x : Int32 => some (.int x))) (ini := false) [.ref v0, .int v1, .int v2, .int v3] (by decide) (by simp [gx_sl]) (fun q => by cases q) (geX10_ahead v0 v1 v2 v3 h) q
theorem dX10_rather_0 : decode cX10_rather 0 = .ok (.aload_n 0, 1) := by decide +kernel
theorem dX10_rather_1 : decode cX10_rather 1 = .ok (.iload_n 1, 1) := by decide +kernel
theorem dX10_rather_2 : decode cX10_rather 2 = .ok (.invokevirtual 134, 3) := by decide +kernel
theorem dX10_rather_5 : decode cX10_rather 5 = .ok (.ifCond .eq 21, 3) := by decide +kernel
theorem dX10_rather_8 : decode cX10_rather 8 = .ok (.iload_n 2, 1) := by decide +kernel
theorem dX10_rather_9 : decode cX10_rather 9 = .ok (.iconst 1, 1) := by decide +kernel
theorem dX10_rather_10 : decode cX10_rather 10 = .ok (.iconst 4, 1) := by decide +kernel
theorem dX10_rather_11 : decode cX10_rather 11 = .ok (.invokestatic 62, 3) := by decide +kernel
theorem dX10_rather_14 : decode cX10_rather 14 = .ok (.ifCond .eq 12, 3) := by decide +kernel
theorem dX10_rather_17 : decode cX10_rather 17 = .ok (.iload_n 3, 1) := by decide +kernel
theorem dX10_rather_18 : decode cX10_rather 18 = .ok (.iconst 0, 1) := by decide +kernel
theorem dX10_rather_19 : decode cX10_rather 19 = .ok (.iconst 1, 1) := by decide +kernel
theorem dX10_rather_20 : decode cX10_rather 20 = .ok (.invokestatic 62, 3) := by decide +kernel
theorem dX10_rather_23 : decode cX10_rather 23 = .ok (.ifCond .ne 10, 3) := by decide +kernel
theorem dX10_rather_26 : decode cX10_rather 26 = .ok (.aload_n 0, 1) := by decide +kernel
theorem dX10_rather_27 : decode cX10_rather 27 = .ok (.bipush (-2), 2) := by decide +kernel
theorem dX10_rather_29 : decode cX10_rather 29 = .ok (.invokevirtual 66, 3) := by decide +kernel
theorem dX10_rather_32 : decode cX10_rather 32 = .ok (.ireturn, 1) := by decide +kernel
theorem dX10_rather_33 : decode cX10_rather 33 = .ok (.aload_n 0, 1) := by decide +kernel
theorem dX10_rather_34 : decode cX10_rather 34 = .ok (.getfield 34, 3) := by decide +kernel
theorem dX10_rather_37 : decode cX10_rather 37 = .ok (.aload_n 0, 1) := by decide +kernel
theorem dX10_rather_38 : decode cX10_rather 38 = .ok (.getfield 10, 3) := by decide +kernel
theorem dX10_rather_41 : decode cX10_rather 41 = .ok (.getfield 70, 3) := by decide +kernel
theorem dX10_rather_44 : decode cX10_rather 44 = .ok (.iload_n 1, 1) := by decide +kernel
theorem dX10_rather_45 : decode cX10_rather 45 = .ok (.iload_n 2, 1) := by decide +kernel
theorem dX10_rather_46 : decode cX10_rather 46 = .ok (.invokevirtual 227, 3) := by decide +kernel
theorem dX10_rather_49 : decode cX10_rather 49 = .ok (.iload_n 3, 1) := by decide +kernel
theorem dX10_rather_50 : decode cX10_rather 50 = .ok (.ifCond .ne 13, 3) := by decide +kernel
theorem dX10_rather_53 : decode cX10_rather 53 = .ok (.aload_n 0, 1) := by decide +kernel
theorem dX10_rather_54 : decode cX10_rather 54 = .ok (.getfield 34, 3) := by decide +kernel
theorem dX10_rather_57 : decode cX10_rather 57 = .ok (.getfield 230, 3) := by decide +kernel
theorem dX10_rather_60 : decode cX10_rather 60 = .ok (.goto 10, 3) := by decide +kernel
theorem dX10_rather_63 : decode cX10_rather 63 = .ok (.aload_n 0, 1) := by decide +kernel
theorem dX10_rather_64 : decode cX10_rather 64 = .ok (.getfield 34, 3) := by decide +kernel
theorem dX10_rather_67 : decode cX10_rather 67 = .ok (.getfield 233, 3) := by decide +kernel
theorem dX10_rather_70 : decode cX10_rather 70 = .ok (.ireturn, 1) := by decide +kernel
def fX10_rather_26 (v0 : Nat) (h : gx_H) : Option (Int32 × gx_H) :=
  gx_bd (fX10_refuse v0 (-2 : Int32) h) fun x17 h16 =>
  some (x17, h16)
def fX10_rather_70 (s0 : Int32) (h : gx_H) : Option (Int32 × gx_H) :=
  some (s0, h)
def fX10_rather (v0 : Nat) (v1 : Int32) (v2 : Int32) (v3 : Int32) (h : gx_H) : Option (Int32 × gx_H) :=
  (gx_isO h v0 8).bind fun _ =>
  gx_bd (fX10_isPlayer v0 v1 h) fun x2 h1 =>
  if x2 = 0 then
    fX10_rather_26 v0 h1
  else
    gx_bd (fX10_within v2 (1 : Int32) (4 : Int32) h1) fun x4 h3 =>
    if x4 = 0 then
      fX10_rather_26 v0 h3
    else
      gx_bd (fX10_within v3 (0 : Int32) (1 : Int32) h3) fun x6 h5 =>
      if x6 = 0 then
        fX10_rather_26 v0 h5
      else
        (gx_fR h5 v0 8 4).bind fun a7 =>
        (gx_fR h5 v0 8 0).bind fun a8 =>
        (gx_fR h5 a8 1 0).bind fun a9 =>
        gx_bd (fX5_findBestSquare a7 a9 v1 v2 h5) fun u11 h10 =>
        if v3 = 0 then
          (gx_fR h10 v0 8 4).bind fun a14 =>
          (gx_fI h10 a14 4 6).bind fun x15 =>
          fX10_rather_70 x15 h10
        else
          (gx_fR h10 v0 8 4).bind fun a12 =>
          (gx_fI h10 a12 4 7).bind fun x13 =>
          fX10_rather_70 x13 h10
set_option maxRecDepth 100000 in
set_option maxHeartbeats 4000000 in
theorem gX10_rather_26 {E : gx_Env} {d : Nat}  : ∀ (v0 : Nat) (h : gx_H), gx_G E RX10 cX10_rather 4 (some .int) false (d + 14) 0 0 26 [some (.ref v0), none, none, none] [] h (fun x : Int32 => some (.int x)) (fX10_rather_26 v0 h) := by
  intro v0 h
  unfold fX10_rather_26
  refine gx_aload_n 0 dX10_rather_26 rfl rfl ?_
  refine gx_bipush (-2 : Int32) dX10_rather_27 (by decide) ?_
  refine gx_callV (ci := 8) (bc := 0) (bs := 0) (mc := 0) (ms := 0) (em' := (fun x : Int32 => some (.int x))) [.int (-2 : Int32)] kc_RX10_66 rfl dX10_rather_29 rfl rfl (gx_w8 rfl) (fun x q => (gx_isO_of (by unfold fX10_refuse at q; exact q)).2) (fun _ _ q => okX10_refuse (d + 13) q) (fun x17 h16 => ?_)
  exact gx_iret dX10_rather_32 rfl
set_option maxRecDepth 100000 in
set_option maxHeartbeats 4000000 in
theorem gX10_rather_70 {E : gx_Env} {d : Nat}  : ∀ (s0 : Int32) (h : gx_H), gx_G E RX10 cX10_rather 4 (some .int) false (d + 14) 0 0 70 [none, none, none, none] [.int s0] h (fun x : Int32 => some (.int x)) (fX10_rather_70 s0 h) := by
  intro s0 h
  unfold fX10_rather_70
  exact gx_iret dX10_rather_70 rfl
set_option maxRecDepth 100000 in
set_option maxHeartbeats 4000000 in
theorem geX10_rather {E : gx_Env} {d : Nat} (v0 : Nat) (v1 : Int32) (v2 : Int32) (v3 : Int32) (h : gx_H) : gx_G E RX10 cX10_rather 4 (some .int) false (d + 14) 0 0 0 [some (.ref v0), some (.int v1), some (.int v2), some (.int v3)] [] h (fun x : Int32 => some (.int x)) (fX10_rather v0 v1 v2 v3 h) := by
  unfold fX10_rather
  refine gx_bind fun _ _ => ?_
  refine gx_aload_n 0 dX10_rather_0 rfl rfl ?_
  refine gx_iload_n 1 dX10_rather_1 rfl rfl ?_
  refine gx_callV (ci := 8) (bc := 0) (bs := 0) (mc := 0) (ms := 0) (em' := (fun x : Int32 => some (.int x))) [.int v1] kc_RX10_134 rfl dX10_rather_2 rfl rfl (gx_w8 rfl) (fun x q => (gx_isO_of (by unfold fX10_isPlayer at q; exact q)).2) (fun _ _ q => okX10_isPlayer (d + 12) q) (fun x2 h1 => ?_)
  refine gx_if_eq 26 dX10_rather_5 (by decide) (fun _ => ?_) (fun _ => ?_)
  · exact gx_sub (gX10_rather_26 v0 h1) (And.intro rfl True.intro)
  · refine gx_iload_n 2 dX10_rather_8 rfl rfl ?_
    refine gx_iconst (1 : Int32) dX10_rather_9 (by decide) ?_
    refine gx_iconst (4 : Int32) dX10_rather_10 (by decide) ?_
    refine gx_callS (bc := 0) (bs := 0) (mc := 0) (ms := 0) (em' := (fun x : Int32 => some (.int x))) [.int v2, .int (1 : Int32), .int (4 : Int32)] kc_RX10_62 dX10_rather_11 rfl rfl (gx_w8 rfl) (fun _ _ q => okX10_within (d + 13) q) (fun x4 h3 => ?_)
    refine gx_if_eq 26 dX10_rather_14 (by decide) (fun _ => ?_) (fun _ => ?_)
    · exact gx_sub (gX10_rather_26 v0 h3) (And.intro rfl True.intro)
    · refine gx_iload_n 3 dX10_rather_17 rfl rfl ?_
      refine gx_iconst (0 : Int32) dX10_rather_18 (by decide) ?_
      refine gx_iconst (1 : Int32) dX10_rather_19 (by decide) ?_
      refine gx_callS (bc := 0) (bs := 0) (mc := 0) (ms := 0) (em' := (fun x : Int32 => some (.int x))) [.int v3, .int (0 : Int32), .int (1 : Int32)] kc_RX10_62 dX10_rather_20 rfl rfl (gx_w8 rfl) (fun _ _ q => okX10_within (d + 13) q) (fun x6 h5 => ?_)
      refine gx_if_ne 33 dX10_rather_23 (by decide) (fun _ => ?_) (fun _ => ?_)
      · refine gx_aload_n 0 dX10_rather_33 rfl rfl ?_
        refine gx_getR kf_RX10_34 dX10_rather_34 (fun a7 => ?_)
        refine gx_aload_n 0 dX10_rather_37 rfl rfl ?_
        refine gx_getR kf_RX10_10 dX10_rather_38 (fun a8 => ?_)
        refine gx_getR kf_RX10_70 dX10_rather_41 (fun a9 => ?_)
        refine gx_iload_n 1 dX10_rather_44 rfl rfl ?_
        refine gx_iload_n 2 dX10_rather_45 rfl rfl ?_
        refine gx_callV (ci := 4) (bc := 0) (bs := 0) (mc := 0) (ms := 0) (em' := (fun _ : Unit => none)) [.ref a9, .int v1, .int v2] kc_RX10_227 rfl dX10_rather_46 rfl rfl (gx_w8 rfl) (fun x q => (gx_isO_of (by unfold fX5_findBestSquare at q; exact q)).2) (fun _ _ q => okX5_findBestSquare d q) (fun u11 h10 => ?_)
        refine gx_iload_n 3 dX10_rather_49 rfl rfl ?_
        refine gx_if_ne 63 dX10_rather_50 (by decide) (fun _ => ?_) (fun _ => ?_)
        · refine gx_aload_n 0 dX10_rather_63 rfl rfl ?_
          refine gx_getR kf_RX10_34 dX10_rather_64 (fun a12 => ?_)
          refine gx_getI kf_RX10_233 dX10_rather_67 (fun x13 => ?_)
          exact gx_sub (gX10_rather_70 x13 h10) True.intro
        · refine gx_aload_n 0 dX10_rather_53 rfl rfl ?_
          refine gx_getR kf_RX10_34 dX10_rather_54 (fun a14 => ?_)
          refine gx_getI kf_RX10_230 dX10_rather_57 (fun x15 => ?_)
          refine gx_goto 70 dX10_rather_60 (by decide) ?_
          exact gx_sub (gX10_rather_70 x15 h10) True.intro
      · exact gx_sub (gX10_rather_26 v0 h5) (And.intro rfl True.intro)
theorem okX10_rather {E : gx_Env} (d : Nat) {v0 : Nat} {v1 : Int32} {v2 : Int32} {v3 : Int32} {h : gx_H} {r : Int32} {h1 : gx_H} (q : fX10_rather v0 v1 v2 v3 h = some (r, h1)) : gx_M E yX10_rather cX10_rather 4 (some .int) (d + 14) 0 0 [.ref v0, .int v1, .int v2, .int v3] h ((fun x : Int32 => some (.int x)) r) h1 := gx_meth (y := yX10_rather) (cc := cX10_rather) (nL := 4) (em := (fun x : Int32 => some (.int x))) (ini := false) [.ref v0, .int v1, .int v2, .int v3] (by decide) (by simp [gx_sl]) (fun q => by cases q) (geX10_rather v0 v1 v2 v3 h) q
theorem dX10_without_0 : decode cX10_without 0 = .ok (.aload_n 0, 1) := by decide +kernel
theorem dX10_without_1 : decode cX10_without 1 = .ok (.iload_n 1, 1) := by decide +kernel
theorem dX10_without_2 : decode cX10_without 2 = .ok (.invokevirtual 134, 3) := by decide +kernel
theorem dX10_without_5 : decode cX10_without 5 = .ok (.ifCond .eq 21, 3) := by decide +kernel
theorem dX10_without_8 : decode cX10_without 8 = .ok (.iload_n 2, 1) := by decide +kernel
theorem dX10_without_9 : decode cX10_without 9 = .ok (.iconst 1, 1) := by decide +kernel
theorem dX10_without_10 : decode cX10_without 10 = .ok (.iconst 4, 1) := by decide +kernel
theorem dX10_without_11 : decode cX10_without 11 = .ok (.invokestatic 62, 3) := by decide +kernel
theorem dX10_without_14 : decode cX10_without 14 = .ok (.ifCond .eq 12, 3) := by decide +kernel
theorem dX10_without_17 : decode cX10_without 17 = .ok (.iload_n 3, 1) := by decide +kernel
theorem dX10_without_18 : decode cX10_without 18 = .ok (.iconst 0, 1) := by decide +kernel
theorem dX10_without_19 : decode cX10_without 19 = .ok (.iconst 1, 1) := by decide +kernel
theorem dX10_without_20 : decode cX10_without 20 = .ok (.invokestatic 62, 3) := by decide +kernel
theorem dX10_without_23 : decode cX10_without 23 = .ok (.ifCond .ne 10, 3) := by decide +kernel
theorem dX10_without_26 : decode cX10_without 26 = .ok (.aload_n 0, 1) := by decide +kernel
theorem dX10_without_27 : decode cX10_without 27 = .ok (.bipush (-2), 2) := by decide +kernel
theorem dX10_without_29 : decode cX10_without 29 = .ok (.invokevirtual 66, 3) := by decide +kernel
theorem dX10_without_32 : decode cX10_without 32 = .ok (.ireturn, 1) := by decide +kernel
theorem dX10_without_33 : decode cX10_without 33 = .ok (.aload_n 0, 1) := by decide +kernel
theorem dX10_without_34 : decode cX10_without 34 = .ok (.getfield 34, 3) := by decide +kernel
theorem dX10_without_37 : decode cX10_without 37 = .ok (.aload_n 0, 1) := by decide +kernel
theorem dX10_without_38 : decode cX10_without 38 = .ok (.getfield 10, 3) := by decide +kernel
theorem dX10_without_41 : decode cX10_without 41 = .ok (.getfield 70, 3) := by decide +kernel
theorem dX10_without_44 : decode cX10_without 44 = .ok (.iload_n 1, 1) := by decide +kernel
theorem dX10_without_45 : decode cX10_without 45 = .ok (.iload_n 2, 1) := by decide +kernel
theorem dX10_without_46 : decode cX10_without 46 = .ok (.invokevirtual 236, 3) := by decide +kernel
theorem dX10_without_49 : decode cX10_without 49 = .ok (.iload_n 3, 1) := by decide +kernel
theorem dX10_without_50 : decode cX10_without 50 = .ok (.ifCond .ne 13, 3) := by decide +kernel
theorem dX10_without_53 : decode cX10_without 53 = .ok (.aload_n 0, 1) := by decide +kernel
theorem dX10_without_54 : decode cX10_without 54 = .ok (.getfield 34, 3) := by decide +kernel
theorem dX10_without_57 : decode cX10_without 57 = .ok (.getfield 230, 3) := by decide +kernel
theorem dX10_without_60 : decode cX10_without 60 = .ok (.goto 10, 3) := by decide +kernel
theorem dX10_without_63 : decode cX10_without 63 = .ok (.aload_n 0, 1) := by decide +kernel
theorem dX10_without_64 : decode cX10_without 64 = .ok (.getfield 34, 3) := by decide +kernel
theorem dX10_without_67 : decode cX10_without 67 = .ok (.getfield 233, 3) := by decide +kernel
theorem dX10_without_70 : decode cX10_without 70 = .ok (.ireturn, 1) := by decide +kernel
def fX10_without_26 (v0 : Nat) (h : gx_H) : Option (Int32 × gx_H) :=
  gx_bd (fX10_refuse v0 (-2 : Int32) h) fun x17 h16 =>
  some (x17, h16)
def fX10_without_70 (s0 : Int32) (h : gx_H) : Option (Int32 × gx_H) :=
  some (s0, h)
def fX10_without (v0 : Nat) (v1 : Int32) (v2 : Int32) (v3 : Int32) (h : gx_H) : Option (Int32 × gx_H) :=
  (gx_isO h v0 8).bind fun _ =>
  gx_bd (fX10_isPlayer v0 v1 h) fun x2 h1 =>
  if x2 = 0 then
    fX10_without_26 v0 h1
  else
    gx_bd (fX10_within v2 (1 : Int32) (4 : Int32) h1) fun x4 h3 =>
    if x4 = 0 then
      fX10_without_26 v0 h3
    else
      gx_bd (fX10_within v3 (0 : Int32) (1 : Int32) h3) fun x6 h5 =>
      if x6 = 0 then
        fX10_without_26 v0 h5
      else
        (gx_fR h5 v0 8 4).bind fun a7 =>
        (gx_fR h5 v0 8 0).bind fun a8 =>
        (gx_fR h5 a8 1 0).bind fun a9 =>
        gx_bd (fX5_findWorstLink a7 a9 v1 v2 h5) fun u11 h10 =>
        if v3 = 0 then
          (gx_fR h10 v0 8 4).bind fun a14 =>
          (gx_fI h10 a14 4 6).bind fun x15 =>
          fX10_without_70 x15 h10
        else
          (gx_fR h10 v0 8 4).bind fun a12 =>
          (gx_fI h10 a12 4 7).bind fun x13 =>
          fX10_without_70 x13 h10
set_option maxRecDepth 100000 in
set_option maxHeartbeats 4000000 in
theorem gX10_without_26 {E : gx_Env} {d : Nat}  : ∀ (v0 : Nat) (h : gx_H), gx_G E RX10 cX10_without 4 (some .int) false (d + 14) 0 0 26 [some (.ref v0), none, none, none] [] h (fun x : Int32 => some (.int x)) (fX10_without_26 v0 h) := by
  intro v0 h
  unfold fX10_without_26
  refine gx_aload_n 0 dX10_without_26 rfl rfl ?_
  refine gx_bipush (-2 : Int32) dX10_without_27 (by decide) ?_
  refine gx_callV (ci := 8) (bc := 0) (bs := 0) (mc := 0) (ms := 0) (em' := (fun x : Int32 => some (.int x))) [.int (-2 : Int32)] kc_RX10_66 rfl dX10_without_29 rfl rfl (gx_w8 rfl) (fun x q => (gx_isO_of (by unfold fX10_refuse at q; exact q)).2) (fun _ _ q => okX10_refuse (d + 13) q) (fun x17 h16 => ?_)
  exact gx_iret dX10_without_32 rfl
set_option maxRecDepth 100000 in
set_option maxHeartbeats 4000000 in
theorem gX10_without_70 {E : gx_Env} {d : Nat}  : ∀ (s0 : Int32) (h : gx_H), gx_G E RX10 cX10_without 4 (some .int) false (d + 14) 0 0 70 [none, none, none, none] [.int s0] h (fun x : Int32 => some (.int x)) (fX10_without_70 s0 h) := by
  intro s0 h
  unfold fX10_without_70
  exact gx_iret dX10_without_70 rfl
set_option maxRecDepth 100000 in
set_option maxHeartbeats 4000000 in
theorem geX10_without {E : gx_Env} {d : Nat} (v0 : Nat) (v1 : Int32) (v2 : Int32) (v3 : Int32) (h : gx_H) : gx_G E RX10 cX10_without 4 (some .int) false (d + 14) 0 0 0 [some (.ref v0), some (.int v1), some (.int v2), some (.int v3)] [] h (fun x : Int32 => some (.int x)) (fX10_without v0 v1 v2 v3 h) := by
  unfold fX10_without
  refine gx_bind fun _ _ => ?_
  refine gx_aload_n 0 dX10_without_0 rfl rfl ?_
  refine gx_iload_n 1 dX10_without_1 rfl rfl ?_
  refine gx_callV (ci := 8) (bc := 0) (bs := 0) (mc := 0) (ms := 0) (em' := (fun x : Int32 => some (.int x))) [.int v1] kc_RX10_134 rfl dX10_without_2 rfl rfl (gx_w8 rfl) (fun x q => (gx_isO_of (by unfold fX10_isPlayer at q; exact q)).2) (fun _ _ q => okX10_isPlayer (d + 12) q) (fun x2 h1 => ?_)
  refine gx_if_eq 26 dX10_without_5 (by decide) (fun _ => ?_) (fun _ => ?_)
  · exact gx_sub (gX10_without_26 v0 h1) (And.intro rfl True.intro)
  · refine gx_iload_n 2 dX10_without_8 rfl rfl ?_
    refine gx_iconst (1 : Int32) dX10_without_9 (by decide) ?_
    refine gx_iconst (4 : Int32) dX10_without_10 (by decide) ?_
    refine gx_callS (bc := 0) (bs := 0) (mc := 0) (ms := 0) (em' := (fun x : Int32 => some (.int x))) [.int v2, .int (1 : Int32), .int (4 : Int32)] kc_RX10_62 dX10_without_11 rfl rfl (gx_w8 rfl) (fun _ _ q => okX10_within (d + 13) q) (fun x4 h3 => ?_)
    refine gx_if_eq 26 dX10_without_14 (by decide) (fun _ => ?_) (fun _ => ?_)
    · exact gx_sub (gX10_without_26 v0 h3) (And.intro rfl True.intro)
    · refine gx_iload_n 3 dX10_without_17 rfl rfl ?_
      refine gx_iconst (0 : Int32) dX10_without_18 (by decide) ?_
      refine gx_iconst (1 : Int32) dX10_without_19 (by decide) ?_
      refine gx_callS (bc := 0) (bs := 0) (mc := 0) (ms := 0) (em' := (fun x : Int32 => some (.int x))) [.int v3, .int (0 : Int32), .int (1 : Int32)] kc_RX10_62 dX10_without_20 rfl rfl (gx_w8 rfl) (fun _ _ q => okX10_within (d + 13) q) (fun x6 h5 => ?_)
      refine gx_if_ne 33 dX10_without_23 (by decide) (fun _ => ?_) (fun _ => ?_)
      · refine gx_aload_n 0 dX10_without_33 rfl rfl ?_
        refine gx_getR kf_RX10_34 dX10_without_34 (fun a7 => ?_)
        refine gx_aload_n 0 dX10_without_37 rfl rfl ?_
        refine gx_getR kf_RX10_10 dX10_without_38 (fun a8 => ?_)
        refine gx_getR kf_RX10_70 dX10_without_41 (fun a9 => ?_)
        refine gx_iload_n 1 dX10_without_44 rfl rfl ?_
        refine gx_iload_n 2 dX10_without_45 rfl rfl ?_
        refine gx_callV (ci := 4) (bc := 0) (bs := 0) (mc := 0) (ms := 0) (em' := (fun _ : Unit => none)) [.ref a9, .int v1, .int v2] kc_RX10_236 rfl dX10_without_46 rfl rfl (gx_w8 rfl) (fun x q => (gx_isO_of (by unfold fX5_findWorstLink at q; exact q)).2) (fun _ _ q => okX5_findWorstLink d q) (fun u11 h10 => ?_)
        refine gx_iload_n 3 dX10_without_49 rfl rfl ?_
        refine gx_if_ne 63 dX10_without_50 (by decide) (fun _ => ?_) (fun _ => ?_)
        · refine gx_aload_n 0 dX10_without_63 rfl rfl ?_
          refine gx_getR kf_RX10_34 dX10_without_64 (fun a12 => ?_)
          refine gx_getI kf_RX10_233 dX10_without_67 (fun x13 => ?_)
          exact gx_sub (gX10_without_70 x13 h10) True.intro
        · refine gx_aload_n 0 dX10_without_53 rfl rfl ?_
          refine gx_getR kf_RX10_34 dX10_without_54 (fun a14 => ?_)
          refine gx_getI kf_RX10_230 dX10_without_57 (fun x15 => ?_)
          refine gx_goto 70 dX10_without_60 (by decide) ?_
          exact gx_sub (gX10_without_70 x15 h10) True.intro
      · exact gx_sub (gX10_without_26 v0 h5) (And.intro rfl True.intro)
theorem okX10_without {E : gx_Env} (d : Nat) {v0 : Nat} {v1 : Int32} {v2 : Int32} {v3 : Int32} {h : gx_H} {r : Int32} {h1 : gx_H} (q : fX10_without v0 v1 v2 v3 h = some (r, h1)) : gx_M E yX10_without cX10_without 4 (some .int) (d + 14) 0 0 [.ref v0, .int v1, .int v2, .int v3] h ((fun x : Int32 => some (.int x)) r) h1 := gx_meth (y := yX10_without) (cc := cX10_without) (nL := 4) (em := (fun x : Int32 => some (.int x))) (ini := false) [.ref v0, .int v1, .int v2, .int v3] (by decide) (by simp [gx_sl]) (fun q => by cases q) (geX10_without v0 v1 v2 v3 h) q
theorem dX10_span_0 : decode cX10_span 0 = .ok (.aload_n 0, 1) := by decide +kernel
theorem dX10_span_1 : decode cX10_span 1 = .ok (.iload_n 1, 1) := by decide +kernel
theorem dX10_span_2 : decode cX10_span 2 = .ok (.invokevirtual 134, 3) := by decide +kernel
theorem dX10_span_5 : decode cX10_span 5 = .ok (.ifCond .eq 21, 3) := by decide +kernel
theorem dX10_span_8 : decode cX10_span 8 = .ok (.iload_n 2, 1) := by decide +kernel
theorem dX10_span_9 : decode cX10_span 9 = .ok (.iconst 0, 1) := by decide +kernel
theorem dX10_span_10 : decode cX10_span 10 = .ok (.iconst 4, 1) := by decide +kernel
theorem dX10_span_11 : decode cX10_span 11 = .ok (.invokestatic 62, 3) := by decide +kernel
theorem dX10_span_14 : decode cX10_span 14 = .ok (.ifCond .eq 12, 3) := by decide +kernel
theorem dX10_span_17 : decode cX10_span 17 = .ok (.iload_n 3, 1) := by decide +kernel
theorem dX10_span_18 : decode cX10_span 18 = .ok (.iconst 0, 1) := by decide +kernel
theorem dX10_span_19 : decode cX10_span 19 = .ok (.iconst 2, 1) := by decide +kernel
theorem dX10_span_20 : decode cX10_span 20 = .ok (.invokestatic 62, 3) := by decide +kernel
theorem dX10_span_23 : decode cX10_span 23 = .ok (.ifCond .ne 10, 3) := by decide +kernel
theorem dX10_span_26 : decode cX10_span 26 = .ok (.aload_n 0, 1) := by decide +kernel
theorem dX10_span_27 : decode cX10_span 27 = .ok (.bipush (-2), 2) := by decide +kernel
theorem dX10_span_29 : decode cX10_span 29 = .ok (.invokevirtual 66, 3) := by decide +kernel
theorem dX10_span_32 : decode cX10_span 32 = .ok (.ireturn, 1) := by decide +kernel
theorem dX10_span_33 : decode cX10_span 33 = .ok (.aload_n 0, 1) := by decide +kernel
theorem dX10_span_34 : decode cX10_span 34 = .ok (.getfield 34, 3) := by decide +kernel
theorem dX10_span_37 : decode cX10_span 37 = .ok (.aload_n 0, 1) := by decide +kernel
theorem dX10_span_38 : decode cX10_span 38 = .ok (.getfield 10, 3) := by decide +kernel
theorem dX10_span_41 : decode cX10_span 41 = .ok (.getfield 70, 3) := by decide +kernel
theorem dX10_span_44 : decode cX10_span 44 = .ok (.iload_n 1, 1) := by decide +kernel
theorem dX10_span_45 : decode cX10_span 45 = .ok (.iload_n 2, 1) := by decide +kernel
theorem dX10_span_46 : decode cX10_span 46 = .ok (.invokevirtual 201, 3) := by decide +kernel
theorem dX10_span_49 : decode cX10_span 49 = .ok (.iload_n 3, 1) := by decide +kernel
theorem dX10_span_50 : decode cX10_span 50 = .ok (.lookupswitch 42 #[(0, 26), (1, 34)], 26) := by decide +kernel
theorem dX10_span_76 : decode cX10_span 76 = .ok (.aload_n 0, 1) := by decide +kernel
theorem dX10_span_77 : decode cX10_span 77 = .ok (.getfield 34, 3) := by decide +kernel
theorem dX10_span_80 : decode cX10_span 80 = .ok (.invokevirtual 239, 3) := by decide +kernel
theorem dX10_span_83 : decode cX10_span 83 = .ok (.ireturn, 1) := by decide +kernel
theorem dX10_span_84 : decode cX10_span 84 = .ok (.aload_n 0, 1) := by decide +kernel
theorem dX10_span_85 : decode cX10_span 85 = .ok (.getfield 34, 3) := by decide +kernel
theorem dX10_span_88 : decode cX10_span 88 = .ok (.invokevirtual 242, 3) := by decide +kernel
theorem dX10_span_91 : decode cX10_span 91 = .ok (.ireturn, 1) := by decide +kernel
theorem dX10_span_92 : decode cX10_span 92 = .ok (.aload_n 0, 1) := by decide +kernel
theorem dX10_span_93 : decode cX10_span 93 = .ok (.getfield 34, 3) := by decide +kernel
theorem dX10_span_96 : decode cX10_span 96 = .ok (.invokevirtual 245, 3) := by decide +kernel
theorem dX10_span_99 : decode cX10_span 99 = .ok (.ireturn, 1) := by decide +kernel
def fX10_span_26 (v0 : Nat) (h : gx_H) : Option (Int32 × gx_H) :=
  gx_bd (fX10_refuse v0 (-2 : Int32) h) fun x22 h21 =>
  some (x22, h21)
def fX10_span (v0 : Nat) (v1 : Int32) (v2 : Int32) (v3 : Int32) (h : gx_H) : Option (Int32 × gx_H) :=
  (gx_isO h v0 8).bind fun _ =>
  gx_bd (fX10_isPlayer v0 v1 h) fun x2 h1 =>
  if x2 = 0 then
    fX10_span_26 v0 h1
  else
    gx_bd (fX10_within v2 (0 : Int32) (4 : Int32) h1) fun x4 h3 =>
    if x4 = 0 then
      fX10_span_26 v0 h3
    else
      gx_bd (fX10_within v3 (0 : Int32) (2 : Int32) h3) fun x6 h5 =>
      if x6 = 0 then
        fX10_span_26 v0 h5
      else
        (gx_fR h5 v0 8 4).bind fun a7 =>
        (gx_fR h5 v0 8 0).bind fun a8 =>
        (gx_fR h5 a8 1 0).bind fun a9 =>
        gx_bd (fX5_spread a7 a9 v1 v2 h5) fun u11 h10 =>
        if v3 = (0 : Int32) then
          (gx_fR h10 v0 8 4).bind fun a12 =>
          gx_bd (fX5_unlikeSquares a12 h10) fun x14 h13 =>
          some (x14, h13)
        else
        if v3 = (1 : Int32) then
          (gx_fR h10 v0 8 4).bind fun a15 =>
          gx_bd (fX5_leastSquare a15 h10) fun x17 h16 =>
          some (x17, h16)
        else
        (gx_fR h10 v0 8 4).bind fun a18 =>
        gx_bd (fX5_greatestSquare a18 h10) fun x20 h19 =>
        some (x20, h19)
set_option maxRecDepth 100000 in
set_option maxHeartbeats 4000000 in
theorem gX10_span_26 {E : gx_Env} {d : Nat}  : ∀ (v0 : Nat) (h : gx_H), gx_G E RX10 cX10_span 4 (some .int) false (d + 14) 0 0 26 [some (.ref v0), none, none, none] [] h (fun x : Int32 => some (.int x)) (fX10_span_26 v0 h) := by
  intro v0 h
  unfold fX10_span_26
  refine gx_aload_n 0 dX10_span_26 rfl rfl ?_
  refine gx_bipush (-2 : Int32) dX10_span_27 (by decide) ?_
  refine gx_callV (ci := 8) (bc := 0) (bs := 0) (mc := 0) (ms := 0) (em' := (fun x : Int32 => some (.int x))) [.int (-2 : Int32)] kc_RX10_66 rfl dX10_span_29 rfl rfl (gx_w8 rfl) (fun x q => (gx_isO_of (by unfold fX10_refuse at q; exact q)).2) (fun _ _ q => okX10_refuse (d + 13) q) (fun x22 h21 => ?_)
  exact gx_iret dX10_span_32 rfl
set_option maxRecDepth 100000 in
set_option maxHeartbeats 4000000 in
theorem geX10_span {E : gx_Env} {d : Nat} (v0 : Nat) (v1 : Int32) (v2 : Int32) (v3 : Int32) (h : gx_H) : gx_G E RX10 cX10_span 4 (some .int) false (d + 14) 0 0 0 [some (.ref v0), some (.int v1), some (.int v2), some (.int v3)] [] h (fun x : Int32 => some (.int x)) (fX10_span v0 v1 v2 v3 h) := by
  unfold fX10_span
  refine gx_bind fun _ _ => ?_
  refine gx_aload_n 0 dX10_span_0 rfl rfl ?_
  refine gx_iload_n 1 dX10_span_1 rfl rfl ?_
  refine gx_callV (ci := 8) (bc := 0) (bs := 0) (mc := 0) (ms := 0) (em' := (fun x : Int32 => some (.int x))) [.int v1] kc_RX10_134 rfl dX10_span_2 rfl rfl (gx_w8 rfl) (fun x q => (gx_isO_of (by unfold fX10_isPlayer at q; exact q)).2) (fun _ _ q => okX10_isPlayer (d + 12) q) (fun x2 h1 => ?_)
  refine gx_if_eq 26 dX10_span_5 (by decide) (fun _ => ?_) (fun _ => ?_)
  · exact gx_sub (gX10_span_26 v0 h1) (And.intro rfl True.intro)
  · refine gx_iload_n 2 dX10_span_8 rfl rfl ?_
    refine gx_iconst (0 : Int32) dX10_span_9 (by decide) ?_
    refine gx_iconst (4 : Int32) dX10_span_10 (by decide) ?_
    refine gx_callS (bc := 0) (bs := 0) (mc := 0) (ms := 0) (em' := (fun x : Int32 => some (.int x))) [.int v2, .int (0 : Int32), .int (4 : Int32)] kc_RX10_62 dX10_span_11 rfl rfl (gx_w8 rfl) (fun _ _ q => okX10_within (d + 13) q) (fun x4 h3 => ?_)
    refine gx_if_eq 26 dX10_span_14 (by decide) (fun _ => ?_) (fun _ => ?_)
    · exact gx_sub (gX10_span_26 v0 h3) (And.intro rfl True.intro)
    · refine gx_iload_n 3 dX10_span_17 rfl rfl ?_
      refine gx_iconst (0 : Int32) dX10_span_18 (by decide) ?_
      refine gx_iconst (2 : Int32) dX10_span_19 (by decide) ?_
      refine gx_callS (bc := 0) (bs := 0) (mc := 0) (ms := 0) (em' := (fun x : Int32 => some (.int x))) [.int v3, .int (0 : Int32), .int (2 : Int32)] kc_RX10_62 dX10_span_20 rfl rfl (gx_w8 rfl) (fun _ _ q => okX10_within (d + 13) q) (fun x6 h5 => ?_)
      refine gx_if_ne 33 dX10_span_23 (by decide) (fun _ => ?_) (fun _ => ?_)
      · refine gx_aload_n 0 dX10_span_33 rfl rfl ?_
        refine gx_getR kf_RX10_34 dX10_span_34 (fun a7 => ?_)
        refine gx_aload_n 0 dX10_span_37 rfl rfl ?_
        refine gx_getR kf_RX10_10 dX10_span_38 (fun a8 => ?_)
        refine gx_getR kf_RX10_70 dX10_span_41 (fun a9 => ?_)
        refine gx_iload_n 1 dX10_span_44 rfl rfl ?_
        refine gx_iload_n 2 dX10_span_45 rfl rfl ?_
        refine gx_callV (ci := 4) (bc := 0) (bs := 0) (mc := 0) (ms := 0) (em' := (fun _ : Unit => none)) [.ref a9, .int v1, .int v2] kc_RX10_201 rfl dX10_span_46 rfl rfl (gx_w8 rfl) (fun x q => (gx_isO_of (by unfold fX5_spread at q; exact q)).2) (fun _ _ q => okX5_spread d q) (fun u11 h10 => ?_)
        refine gx_iload_n 3 dX10_span_49 rfl rfl ?_
        refine gx_ite (fun hx => ?_) (fun hx0 => ?_)
        · refine gx_look (off := 26) 76 dX10_span_50 (by decide) (by rw [hx]; decide) (by decide) ?_
          refine gx_aload_n 0 dX10_span_76 rfl rfl ?_
          refine gx_getR kf_RX10_34 dX10_span_77 (fun a12 => ?_)
          refine gx_callV (ci := 4) (bc := 0) (bs := 0) (mc := 0) (ms := 0) (em' := (fun x : Int32 => some (.int x))) [] kc_RX10_239 rfl dX10_span_80 rfl rfl (gx_w8 rfl) (fun x q => (gx_isO_of (by unfold fX5_unlikeSquares at q; exact q)).2) (fun _ _ q => okX5_unlikeSquares (d + 13) q) (fun x14 h13 => ?_)
          exact gx_iret dX10_span_83 rfl
        refine gx_ite (fun hx => ?_) (fun hx1 => ?_)
        · refine gx_look (off := 34) 84 dX10_span_50 (by decide) (by rw [hx]; decide) (by decide) ?_
          refine gx_aload_n 0 dX10_span_84 rfl rfl ?_
          refine gx_getR kf_RX10_34 dX10_span_85 (fun a15 => ?_)
          refine gx_callV (ci := 4) (bc := 0) (bs := 0) (mc := 0) (ms := 0) (em' := (fun x : Int32 => some (.int x))) [] kc_RX10_242 rfl dX10_span_88 rfl rfl (gx_w8 rfl) (fun x q => (gx_isO_of (by unfold fX5_leastSquare at q; exact q)).2) (fun _ _ q => okX5_leastSquare (d + 13) q) (fun x17 h16 => ?_)
          exact gx_iret dX10_span_91 rfl
        refine gx_look (off := 42) 92 dX10_span_50 (by decide) ((lv_osw hx0 (by decide)).trans ((lv_osw hx1 (by decide)).trans rfl)) (by decide) ?_
        refine gx_aload_n 0 dX10_span_92 rfl rfl ?_
        refine gx_getR kf_RX10_34 dX10_span_93 (fun a18 => ?_)
        refine gx_callV (ci := 4) (bc := 0) (bs := 0) (mc := 0) (ms := 0) (em' := (fun x : Int32 => some (.int x))) [] kc_RX10_245 rfl dX10_span_96 rfl rfl (gx_w8 rfl) (fun x q => (gx_isO_of (by unfold fX5_greatestSquare at q; exact q)).2) (fun _ _ q => okX5_greatestSquare (d + 13) q) (fun x20 h19 => ?_)
        exact gx_iret dX10_span_99 rfl
      · exact gx_sub (gX10_span_26 v0 h5) (And.intro rfl True.intro)
theorem okX10_span {E : gx_Env} (d : Nat) {v0 : Nat} {v1 : Int32} {v2 : Int32} {v3 : Int32} {h : gx_H} {r : Int32} {h1 : gx_H} (q : fX10_span v0 v1 v2 v3 h = some (r, h1)) : gx_M E yX10_span cX10_span 4 (some .int) (d + 14) 0 0 [.ref v0, .int v1, .int v2, .int v3] h ((fun x : Int32 => some (.int x)) r) h1 := gx_meth (y := yX10_span) (cc := cX10_span) (nL := 4) (em := (fun x : Int32 => some (.int x))) (ini := false) [.ref v0, .int v1, .int v2, .int v3] (by decide) (by simp [gx_sl]) (fun q => by cases q) (geX10_span v0 v1 v2 v3 h) q
theorem dX10_note_0 : decode cX10_note 0 = .ok (.aload_n 0, 1) := by decide +kernel
theorem dX10_note_1 : decode cX10_note 1 = .ok (.iload_n 1, 1) := by decide +kernel
theorem dX10_note_2 : decode cX10_note 2 = .ok (.invokevirtual 172, 3) := by decide +kernel
theorem dX10_note_5 : decode cX10_note 5 = .ok (.ifCond .eq 34, 3) := by decide +kernel
theorem dX10_note_8 : decode cX10_note 8 = .ok (.iload_n 2, 1) := by decide +kernel
theorem dX10_note_9 : decode cX10_note 9 = .ok (.iconst 0, 1) := by decide +kernel
theorem dX10_note_10 : decode cX10_note 10 = .ok (.bipush 9, 2) := by decide +kernel
theorem dX10_note_12 : decode cX10_note 12 = .ok (.invokestatic 62, 3) := by decide +kernel
theorem dX10_note_15 : decode cX10_note 15 = .ok (.ifCond .eq 24, 3) := by decide +kernel
theorem dX10_note_18 : decode cX10_note 18 = .ok (.iload_n 3, 1) := by decide +kernel
theorem dX10_note_19 : decode cX10_note 19 = .ok (.iconst 1, 1) := by decide +kernel
theorem dX10_note_20 : decode cX10_note 20 = .ok (.bipush 6, 2) := by decide +kernel
theorem dX10_note_22 : decode cX10_note 22 = .ok (.invokestatic 62, 3) := by decide +kernel
theorem dX10_note_25 : decode cX10_note 25 = .ok (.ifCond .eq 14, 3) := by decide +kernel
theorem dX10_note_28 : decode cX10_note 28 = .ok (.iload 4, 2) := by decide +kernel
theorem dX10_note_30 : decode cX10_note 30 = .ok (.iconst 0, 1) := by decide +kernel
theorem dX10_note_31 : decode cX10_note 31 = .ok (.bipush 40, 2) := by decide +kernel
theorem dX10_note_33 : decode cX10_note 33 = .ok (.invokestatic 62, 3) := by decide +kernel
theorem dX10_note_36 : decode cX10_note 36 = .ok (.ifCond .ne 10, 3) := by decide +kernel
theorem dX10_note_39 : decode cX10_note 39 = .ok (.aload_n 0, 1) := by decide +kernel
theorem dX10_note_40 : decode cX10_note 40 = .ok (.bipush (-2), 2) := by decide +kernel
theorem dX10_note_42 : decode cX10_note 42 = .ok (.invokevirtual 66, 3) := by decide +kernel
theorem dX10_note_45 : decode cX10_note 45 = .ok (.ireturn, 1) := by decide +kernel
theorem dX10_note_46 : decode cX10_note 46 = .ok (.aload_n 0, 1) := by decide +kernel
theorem dX10_note_47 : decode cX10_note 47 = .ok (.getfield 10, 3) := by decide +kernel
theorem dX10_note_50 : decode cX10_note 50 = .ok (.getfield 248, 3) := by decide +kernel
theorem dX10_note_53 : decode cX10_note 53 = .ok (.getfield 252, 3) := by decide +kernel
theorem dX10_note_56 : decode cX10_note 56 = .ok (.bipush 6, 2) := by decide +kernel
theorem dX10_note_58 : decode cX10_note 58 = .ok (.if_icmp .lt 10, 3) := by decide +kernel
theorem dX10_note_61 : decode cX10_note 61 = .ok (.aload_n 0, 1) := by decide +kernel
theorem dX10_note_62 : decode cX10_note 62 = .ok (.bipush (-4), 2) := by decide +kernel
theorem dX10_note_64 : decode cX10_note 64 = .ok (.invokevirtual 66, 3) := by decide +kernel
theorem dX10_note_67 : decode cX10_note 67 = .ok (.ireturn, 1) := by decide +kernel
theorem dX10_note_68 : decode cX10_note 68 = .ok (.aload_n 0, 1) := by decide +kernel
theorem dX10_note_69 : decode cX10_note 69 = .ok (.getfield 10, 3) := by decide +kernel
theorem dX10_note_72 : decode cX10_note 72 = .ok (.getfield 248, 3) := by decide +kernel
theorem dX10_note_75 : decode cX10_note 75 = .ok (.iload_n 1, 1) := by decide +kernel
theorem dX10_note_76 : decode cX10_note 76 = .ok (.iload_n 2, 1) := by decide +kernel
theorem dX10_note_77 : decode cX10_note 77 = .ok (.iload_n 3, 1) := by decide +kernel
theorem dX10_note_78 : decode cX10_note 78 = .ok (.iload 4, 2) := by decide +kernel
theorem dX10_note_80 : decode cX10_note 80 = .ok (.invokevirtual 255, 3) := by decide +kernel
theorem dX10_note_83 : decode cX10_note 83 = .ok (.ireturn, 1) := by decide +kernel
def fX10_note_39 (v0 : Nat) (h : gx_H) : Option (Int32 × gx_H) :=
  gx_bd (fX10_refuse v0 (-2 : Int32) h) fun x19 h18 =>
  some (x19, h18)
def fX10_note (v0 : Nat) (v1 : Int32) (v2 : Int32) (v3 : Int32) (v4 : Int32) (h : gx_H) : Option (Int32 × gx_H) :=
  (gx_isO h v0 8).bind fun _ =>
  gx_bd (fX10_isLink v0 v1 h) fun x2 h1 =>
  if x2 = 0 then
    fX10_note_39 v0 h1
  else
    gx_bd (fX10_within v2 (0 : Int32) (9 : Int32) h1) fun x4 h3 =>
    if x4 = 0 then
      fX10_note_39 v0 h3
    else
      gx_bd (fX10_within v3 (1 : Int32) (6 : Int32) h3) fun x6 h5 =>
      if x6 = 0 then
        fX10_note_39 v0 h5
      else
        gx_bd (fX10_within v4 (0 : Int32) (40 : Int32) h5) fun x8 h7 =>
        if x8 = 0 then
          fX10_note_39 v0 h7
        else
          (gx_fR h7 v0 8 0).bind fun a9 =>
          (gx_fR h7 a9 1 2).bind fun a10 =>
          (gx_fI h7 a10 5 0).bind fun x11 =>
          if x11 < (6 : Int32) then
            (gx_fR h7 v0 8 0).bind fun a12 =>
            (gx_fR h7 a12 1 2).bind fun a13 =>
            gx_bd (fX7_add a13 v1 v2 v3 v4 h7) fun x15 h14 =>
            some (x15, h14)
          else
            gx_bd (fX10_refuse v0 (-4 : Int32) h7) fun x17 h16 =>
            some (x17, h16)
set_option maxRecDepth 100000 in
set_option maxHeartbeats 4000000 in
theorem gX10_note_39 {E : gx_Env} {d : Nat}  : ∀ (v0 : Nat) (h : gx_H), gx_G E RX10 cX10_note 5 (some .int) false (d + 2) 0 0 39 [some (.ref v0), none, none, none, none] [] h (fun x : Int32 => some (.int x)) (fX10_note_39 v0 h) := by
  intro v0 h
  unfold fX10_note_39
  refine gx_aload_n 0 dX10_note_39 rfl rfl ?_
  refine gx_bipush (-2 : Int32) dX10_note_40 (by decide) ?_
  refine gx_callV (ci := 8) (bc := 0) (bs := 0) (mc := 0) (ms := 0) (em' := (fun x : Int32 => some (.int x))) [.int (-2 : Int32)] kc_RX10_66 rfl dX10_note_42 rfl rfl (gx_w8 rfl) (fun x q => (gx_isO_of (by unfold fX10_refuse at q; exact q)).2) (fun _ _ q => okX10_refuse (d + 1) q) (fun x19 h18 => ?_)
  exact gx_iret dX10_note_45 rfl
set_option maxRecDepth 100000 in
set_option maxHeartbeats 4000000 in
theorem geX10_note {E : gx_Env} {d : Nat} (v0 : Nat) (v1 : Int32) (v2 : Int32) (v3 : Int32) (v4 : Int32) (h : gx_H) : gx_G E RX10 cX10_note 5 (some .int) false (d + 2) 0 0 0 [some (.ref v0), some (.int v1), some (.int v2), some (.int v3), some (.int v4)] [] h (fun x : Int32 => some (.int x)) (fX10_note v0 v1 v2 v3 v4 h) := by
  unfold fX10_note
  refine gx_bind fun _ _ => ?_
  refine gx_aload_n 0 dX10_note_0 rfl rfl ?_
  refine gx_iload_n 1 dX10_note_1 rfl rfl ?_
  refine gx_callV (ci := 8) (bc := 0) (bs := 0) (mc := 0) (ms := 0) (em' := (fun x : Int32 => some (.int x))) [.int v1] kc_RX10_172 rfl dX10_note_2 rfl rfl (gx_w8 rfl) (fun x q => (gx_isO_of (by unfold fX10_isLink at q; exact q)).2) (fun _ _ q => okX10_isLink d q) (fun x2 h1 => ?_)
  refine gx_if_eq 39 dX10_note_5 (by decide) (fun _ => ?_) (fun _ => ?_)
  · exact gx_sub (gX10_note_39 v0 h1) (And.intro rfl True.intro)
  · refine gx_iload_n 2 dX10_note_8 rfl rfl ?_
    refine gx_iconst (0 : Int32) dX10_note_9 (by decide) ?_
    refine gx_bipush (9 : Int32) dX10_note_10 (by decide) ?_
    refine gx_callS (bc := 0) (bs := 0) (mc := 0) (ms := 0) (em' := (fun x : Int32 => some (.int x))) [.int v2, .int (0 : Int32), .int (9 : Int32)] kc_RX10_62 dX10_note_12 rfl rfl (gx_w8 rfl) (fun _ _ q => okX10_within (d + 1) q) (fun x4 h3 => ?_)
    refine gx_if_eq 39 dX10_note_15 (by decide) (fun _ => ?_) (fun _ => ?_)
    · exact gx_sub (gX10_note_39 v0 h3) (And.intro rfl True.intro)
    · refine gx_iload_n 3 dX10_note_18 rfl rfl ?_
      refine gx_iconst (1 : Int32) dX10_note_19 (by decide) ?_
      refine gx_bipush (6 : Int32) dX10_note_20 (by decide) ?_
      refine gx_callS (bc := 0) (bs := 0) (mc := 0) (ms := 0) (em' := (fun x : Int32 => some (.int x))) [.int v3, .int (1 : Int32), .int (6 : Int32)] kc_RX10_62 dX10_note_22 rfl rfl (gx_w8 rfl) (fun _ _ q => okX10_within (d + 1) q) (fun x6 h5 => ?_)
      refine gx_if_eq 39 dX10_note_25 (by decide) (fun _ => ?_) (fun _ => ?_)
      · exact gx_sub (gX10_note_39 v0 h5) (And.intro rfl True.intro)
      · refine gx_iload dX10_note_28 rfl ?_
        refine gx_iconst (0 : Int32) dX10_note_30 (by decide) ?_
        refine gx_bipush (40 : Int32) dX10_note_31 (by decide) ?_
        refine gx_callS (bc := 0) (bs := 0) (mc := 0) (ms := 0) (em' := (fun x : Int32 => some (.int x))) [.int v4, .int (0 : Int32), .int (40 : Int32)] kc_RX10_62 dX10_note_33 rfl rfl (gx_w8 rfl) (fun _ _ q => okX10_within (d + 1) q) (fun x8 h7 => ?_)
        refine gx_if_ne 46 dX10_note_36 (by decide) (fun _ => ?_) (fun _ => ?_)
        · refine gx_aload_n 0 dX10_note_46 rfl rfl ?_
          refine gx_getR kf_RX10_10 dX10_note_47 (fun a9 => ?_)
          refine gx_getR kf_RX10_248 dX10_note_50 (fun a10 => ?_)
          refine gx_getI kf_RX10_252 dX10_note_53 (fun x11 => ?_)
          refine gx_bipush (6 : Int32) dX10_note_56 (by decide) ?_
          refine gx_icmp_lt 68 dX10_note_58 (by decide) (fun _ => ?_) (fun _ => ?_)
          · refine gx_aload_n 0 dX10_note_68 rfl rfl ?_
            refine gx_getR kf_RX10_10 dX10_note_69 (fun a12 => ?_)
            refine gx_getR kf_RX10_248 dX10_note_72 (fun a13 => ?_)
            refine gx_iload_n 1 dX10_note_75 rfl rfl ?_
            refine gx_iload_n 2 dX10_note_76 rfl rfl ?_
            refine gx_iload_n 3 dX10_note_77 rfl rfl ?_
            refine gx_iload dX10_note_78 rfl ?_
            refine gx_callV (ci := 5) (bc := 0) (bs := 0) (mc := 0) (ms := 0) (em' := (fun x : Int32 => some (.int x))) [.int v1, .int v2, .int v3, .int v4] kc_RX10_255 rfl dX10_note_80 rfl rfl (gx_w8 rfl) (fun x q => (gx_isO_of (by unfold fX7_add at q; exact q)).2) (fun _ _ q => okX7_add (d + 1) q) (fun x15 h14 => ?_)
            exact gx_iret dX10_note_83 rfl
          · refine gx_aload_n 0 dX10_note_61 rfl rfl ?_
            refine gx_bipush (-4 : Int32) dX10_note_62 (by decide) ?_
            refine gx_callV (ci := 8) (bc := 0) (bs := 0) (mc := 0) (ms := 0) (em' := (fun x : Int32 => some (.int x))) [.int (-4 : Int32)] kc_RX10_66 rfl dX10_note_64 rfl rfl (gx_w8 rfl) (fun x q => (gx_isO_of (by unfold fX10_refuse at q; exact q)).2) (fun _ _ q => okX10_refuse (d + 1) q) (fun x17 h16 => ?_)
            exact gx_iret dX10_note_67 rfl
        · exact gx_sub (gX10_note_39 v0 h7) (And.intro rfl True.intro)
theorem okX10_note {E : gx_Env} (d : Nat) {v0 : Nat} {v1 : Int32} {v2 : Int32} {v3 : Int32} {v4 : Int32} {h : gx_H} {r : Int32} {h1 : gx_H} (q : fX10_note v0 v1 v2 v3 v4 h = some (r, h1)) : gx_M E yX10_note cX10_note 5 (some .int) (d + 2) 0 0 [.ref v0, .int v1, .int v2, .int v3, .int v4] h ((fun x : Int32 => some (.int x)) r) h1 := gx_meth (y := yX10_note) (cc := cX10_note) (nL := 5) (em := (fun x : Int32 => some (.int x))) (ini := false) [.ref v0, .int v1, .int v2, .int v3, .int v4] (by decide) (by simp [gx_sl]) (fun q => by cases q) (geX10_note v0 v1 v2 v3 v4 h) q
theorem dX10_mark_0 : decode cX10_mark 0 = .ok (.aload_n 0, 1) := by decide +kernel
theorem dX10_mark_1 : decode cX10_mark 1 = .ok (.iload_n 1, 1) := by decide +kernel
theorem dX10_mark_2 : decode cX10_mark 2 = .ok (.invokevirtual 134, 3) := by decide +kernel
theorem dX10_mark_5 : decode cX10_mark 5 = .ok (.ifCond .eq 34, 3) := by decide +kernel
theorem dX10_mark_8 : decode cX10_mark 8 = .ok (.iload_n 2, 1) := by decide +kernel
theorem dX10_mark_9 : decode cX10_mark 9 = .ok (.iconst 0, 1) := by decide +kernel
theorem dX10_mark_10 : decode cX10_mark 10 = .ok (.bipush 40, 2) := by decide +kernel
theorem dX10_mark_12 : decode cX10_mark 12 = .ok (.invokestatic 62, 3) := by decide +kernel
theorem dX10_mark_15 : decode cX10_mark 15 = .ok (.ifCond .eq 24, 3) := by decide +kernel
theorem dX10_mark_18 : decode cX10_mark 18 = .ok (.iload_n 3, 1) := by decide +kernel
theorem dX10_mark_19 : decode cX10_mark 19 = .ok (.iconst 1, 1) := by decide +kernel
theorem dX10_mark_20 : decode cX10_mark 20 = .ok (.bipush 6, 2) := by decide +kernel
theorem dX10_mark_22 : decode cX10_mark 22 = .ok (.invokestatic 62, 3) := by decide +kernel
theorem dX10_mark_25 : decode cX10_mark 25 = .ok (.ifCond .eq 14, 3) := by decide +kernel
theorem dX10_mark_28 : decode cX10_mark 28 = .ok (.iload 4, 2) := by decide +kernel
theorem dX10_mark_30 : decode cX10_mark 30 = .ok (.iconst 0, 1) := by decide +kernel
theorem dX10_mark_31 : decode cX10_mark 31 = .ok (.bipush 40, 2) := by decide +kernel
theorem dX10_mark_33 : decode cX10_mark 33 = .ok (.invokestatic 62, 3) := by decide +kernel
theorem dX10_mark_36 : decode cX10_mark 36 = .ok (.ifCond .ne 10, 3) := by decide +kernel
theorem dX10_mark_39 : decode cX10_mark 39 = .ok (.aload_n 0, 1) := by decide +kernel
theorem dX10_mark_40 : decode cX10_mark 40 = .ok (.bipush (-2), 2) := by decide +kernel
theorem dX10_mark_42 : decode cX10_mark 42 = .ok (.invokevirtual 66, 3) := by decide +kernel
theorem dX10_mark_45 : decode cX10_mark 45 = .ok (.ireturn, 1) := by decide +kernel
theorem dX10_mark_46 : decode cX10_mark 46 = .ok (.aload_n 0, 1) := by decide +kernel
theorem dX10_mark_47 : decode cX10_mark 47 = .ok (.getfield 10, 3) := by decide +kernel
theorem dX10_mark_50 : decode cX10_mark 50 = .ok (.getfield 259, 3) := by decide +kernel
theorem dX10_mark_53 : decode cX10_mark 53 = .ok (.getfield 252, 3) := by decide +kernel
theorem dX10_mark_56 : decode cX10_mark 56 = .ok (.bipush 6, 2) := by decide +kernel
theorem dX10_mark_58 : decode cX10_mark 58 = .ok (.if_icmp .lt 10, 3) := by decide +kernel
theorem dX10_mark_61 : decode cX10_mark 61 = .ok (.aload_n 0, 1) := by decide +kernel
theorem dX10_mark_62 : decode cX10_mark 62 = .ok (.bipush (-4), 2) := by decide +kernel
theorem dX10_mark_64 : decode cX10_mark 64 = .ok (.invokevirtual 66, 3) := by decide +kernel
theorem dX10_mark_67 : decode cX10_mark 67 = .ok (.ireturn, 1) := by decide +kernel
theorem dX10_mark_68 : decode cX10_mark 68 = .ok (.aload_n 0, 1) := by decide +kernel
theorem dX10_mark_69 : decode cX10_mark 69 = .ok (.getfield 10, 3) := by decide +kernel
theorem dX10_mark_72 : decode cX10_mark 72 = .ok (.getfield 259, 3) := by decide +kernel
theorem dX10_mark_75 : decode cX10_mark 75 = .ok (.iload_n 1, 1) := by decide +kernel
theorem dX10_mark_76 : decode cX10_mark 76 = .ok (.iload_n 2, 1) := by decide +kernel
theorem dX10_mark_77 : decode cX10_mark 77 = .ok (.iload_n 3, 1) := by decide +kernel
theorem dX10_mark_78 : decode cX10_mark 78 = .ok (.iload 4, 2) := by decide +kernel
theorem dX10_mark_80 : decode cX10_mark 80 = .ok (.invokevirtual 255, 3) := by decide +kernel
theorem dX10_mark_83 : decode cX10_mark 83 = .ok (.ireturn, 1) := by decide +kernel
def fX10_mark_39 (v0 : Nat) (h : gx_H) : Option (Int32 × gx_H) :=
  gx_bd (fX10_refuse v0 (-2 : Int32) h) fun x19 h18 =>
  some (x19, h18)
def fX10_mark (v0 : Nat) (v1 : Int32) (v2 : Int32) (v3 : Int32) (v4 : Int32) (h : gx_H) : Option (Int32 × gx_H) :=
  (gx_isO h v0 8).bind fun _ =>
  gx_bd (fX10_isPlayer v0 v1 h) fun x2 h1 =>
  if x2 = 0 then
    fX10_mark_39 v0 h1
  else
    gx_bd (fX10_within v2 (0 : Int32) (40 : Int32) h1) fun x4 h3 =>
    if x4 = 0 then
      fX10_mark_39 v0 h3
    else
      gx_bd (fX10_within v3 (1 : Int32) (6 : Int32) h3) fun x6 h5 =>
      if x6 = 0 then
        fX10_mark_39 v0 h5
      else
        gx_bd (fX10_within v4 (0 : Int32) (40 : Int32) h5) fun x8 h7 =>
        if x8 = 0 then
          fX10_mark_39 v0 h7
        else
          (gx_fR h7 v0 8 0).bind fun a9 =>
          (gx_fR h7 a9 1 3).bind fun a10 =>
          (gx_fI h7 a10 5 0).bind fun x11 =>
          if x11 < (6 : Int32) then
            (gx_fR h7 v0 8 0).bind fun a12 =>
            (gx_fR h7 a12 1 3).bind fun a13 =>
            gx_bd (fX7_add a13 v1 v2 v3 v4 h7) fun x15 h14 =>
            some (x15, h14)
          else
            gx_bd (fX10_refuse v0 (-4 : Int32) h7) fun x17 h16 =>
            some (x17, h16)
set_option maxRecDepth 100000 in
set_option maxHeartbeats 4000000 in
theorem gX10_mark_39 {E : gx_Env} {d : Nat}  : ∀ (v0 : Nat) (h : gx_H), gx_G E RX10 cX10_mark 5 (some .int) false (d + 2) 0 0 39 [some (.ref v0), none, none, none, none] [] h (fun x : Int32 => some (.int x)) (fX10_mark_39 v0 h) := by
  intro v0 h
  unfold fX10_mark_39
  refine gx_aload_n 0 dX10_mark_39 rfl rfl ?_
  refine gx_bipush (-2 : Int32) dX10_mark_40 (by decide) ?_
  refine gx_callV (ci := 8) (bc := 0) (bs := 0) (mc := 0) (ms := 0) (em' := (fun x : Int32 => some (.int x))) [.int (-2 : Int32)] kc_RX10_66 rfl dX10_mark_42 rfl rfl (gx_w8 rfl) (fun x q => (gx_isO_of (by unfold fX10_refuse at q; exact q)).2) (fun _ _ q => okX10_refuse (d + 1) q) (fun x19 h18 => ?_)
  exact gx_iret dX10_mark_45 rfl
set_option maxRecDepth 100000 in
set_option maxHeartbeats 4000000 in
theorem geX10_mark {E : gx_Env} {d : Nat} (v0 : Nat) (v1 : Int32) (v2 : Int32) (v3 : Int32) (v4 : Int32) (h : gx_H) : gx_G E RX10 cX10_mark 5 (some .int) false (d + 2) 0 0 0 [some (.ref v0), some (.int v1), some (.int v2), some (.int v3), some (.int v4)] [] h (fun x : Int32 => some (.int x)) (fX10_mark v0 v1 v2 v3 v4 h) := by
  unfold fX10_mark
  refine gx_bind fun _ _ => ?_
  refine gx_aload_n 0 dX10_mark_0 rfl rfl ?_
  refine gx_iload_n 1 dX10_mark_1 rfl rfl ?_
  refine gx_callV (ci := 8) (bc := 0) (bs := 0) (mc := 0) (ms := 0) (em' := (fun x : Int32 => some (.int x))) [.int v1] kc_RX10_134 rfl dX10_mark_2 rfl rfl (gx_w8 rfl) (fun x q => (gx_isO_of (by unfold fX10_isPlayer at q; exact q)).2) (fun _ _ q => okX10_isPlayer d q) (fun x2 h1 => ?_)
  refine gx_if_eq 39 dX10_mark_5 (by decide) (fun _ => ?_) (fun _ => ?_)
  · exact gx_sub (gX10_mark_39 v0 h1) (And.intro rfl True.intro)
  · refine gx_iload_n 2 dX10_mark_8 rfl rfl ?_
    refine gx_iconst (0 : Int32) dX10_mark_9 (by decide) ?_
    refine gx_bipush (40 : Int32) dX10_mark_10 (by decide) ?_
    refine gx_callS (bc := 0) (bs := 0) (mc := 0) (ms := 0) (em' := (fun x : Int32 => some (.int x))) [.int v2, .int (0 : Int32), .int (40 : Int32)] kc_RX10_62 dX10_mark_12 rfl rfl (gx_w8 rfl) (fun _ _ q => okX10_within (d + 1) q) (fun x4 h3 => ?_)
    refine gx_if_eq 39 dX10_mark_15 (by decide) (fun _ => ?_) (fun _ => ?_)
    · exact gx_sub (gX10_mark_39 v0 h3) (And.intro rfl True.intro)
    · refine gx_iload_n 3 dX10_mark_18 rfl rfl ?_
      refine gx_iconst (1 : Int32) dX10_mark_19 (by decide) ?_
      refine gx_bipush (6 : Int32) dX10_mark_20 (by decide) ?_
      refine gx_callS (bc := 0) (bs := 0) (mc := 0) (ms := 0) (em' := (fun x : Int32 => some (.int x))) [.int v3, .int (1 : Int32), .int (6 : Int32)] kc_RX10_62 dX10_mark_22 rfl rfl (gx_w8 rfl) (fun _ _ q => okX10_within (d + 1) q) (fun x6 h5 => ?_)
      refine gx_if_eq 39 dX10_mark_25 (by decide) (fun _ => ?_) (fun _ => ?_)
      · exact gx_sub (gX10_mark_39 v0 h5) (And.intro rfl True.intro)
      · refine gx_iload dX10_mark_28 rfl ?_
        refine gx_iconst (0 : Int32) dX10_mark_30 (by decide) ?_
        refine gx_bipush (40 : Int32) dX10_mark_31 (by decide) ?_
        refine gx_callS (bc := 0) (bs := 0) (mc := 0) (ms := 0) (em' := (fun x : Int32 => some (.int x))) [.int v4, .int (0 : Int32), .int (40 : Int32)] kc_RX10_62 dX10_mark_33 rfl rfl (gx_w8 rfl) (fun _ _ q => okX10_within (d + 1) q) (fun x8 h7 => ?_)
        refine gx_if_ne 46 dX10_mark_36 (by decide) (fun _ => ?_) (fun _ => ?_)
        · refine gx_aload_n 0 dX10_mark_46 rfl rfl ?_
          refine gx_getR kf_RX10_10 dX10_mark_47 (fun a9 => ?_)
          refine gx_getR kf_RX10_259 dX10_mark_50 (fun a10 => ?_)
          refine gx_getI kf_RX10_252 dX10_mark_53 (fun x11 => ?_)
          refine gx_bipush (6 : Int32) dX10_mark_56 (by decide) ?_
          refine gx_icmp_lt 68 dX10_mark_58 (by decide) (fun _ => ?_) (fun _ => ?_)
          · refine gx_aload_n 0 dX10_mark_68 rfl rfl ?_
            refine gx_getR kf_RX10_10 dX10_mark_69 (fun a12 => ?_)
            refine gx_getR kf_RX10_259 dX10_mark_72 (fun a13 => ?_)
            refine gx_iload_n 1 dX10_mark_75 rfl rfl ?_
            refine gx_iload_n 2 dX10_mark_76 rfl rfl ?_
            refine gx_iload_n 3 dX10_mark_77 rfl rfl ?_
            refine gx_iload dX10_mark_78 rfl ?_
            refine gx_callV (ci := 5) (bc := 0) (bs := 0) (mc := 0) (ms := 0) (em' := (fun x : Int32 => some (.int x))) [.int v1, .int v2, .int v3, .int v4] kc_RX10_255 rfl dX10_mark_80 rfl rfl (gx_w8 rfl) (fun x q => (gx_isO_of (by unfold fX7_add at q; exact q)).2) (fun _ _ q => okX7_add (d + 1) q) (fun x15 h14 => ?_)
            exact gx_iret dX10_mark_83 rfl
          · refine gx_aload_n 0 dX10_mark_61 rfl rfl ?_
            refine gx_bipush (-4 : Int32) dX10_mark_62 (by decide) ?_
            refine gx_callV (ci := 8) (bc := 0) (bs := 0) (mc := 0) (ms := 0) (em' := (fun x : Int32 => some (.int x))) [.int (-4 : Int32)] kc_RX10_66 rfl dX10_mark_64 rfl rfl (gx_w8 rfl) (fun x q => (gx_isO_of (by unfold fX10_refuse at q; exact q)).2) (fun _ _ q => okX10_refuse (d + 1) q) (fun x17 h16 => ?_)
            exact gx_iret dX10_mark_67 rfl
        · exact gx_sub (gX10_mark_39 v0 h7) (And.intro rfl True.intro)
theorem okX10_mark {E : gx_Env} (d : Nat) {v0 : Nat} {v1 : Int32} {v2 : Int32} {v3 : Int32} {v4 : Int32} {h : gx_H} {r : Int32} {h1 : gx_H} (q : fX10_mark v0 v1 v2 v3 v4 h = some (r, h1)) : gx_M E yX10_mark cX10_mark 5 (some .int) (d + 2) 0 0 [.ref v0, .int v1, .int v2, .int v3, .int v4] h ((fun x : Int32 => some (.int x)) r) h1 := gx_meth (y := yX10_mark) (cc := cX10_mark) (nL := 5) (em := (fun x : Int32 => some (.int x))) (ini := false) [.ref v0, .int v1, .int v2, .int v3, .int v4] (by decide) (by simp [gx_sl]) (fun q => by cases q) (geX10_mark v0 v1 v2 v3 v4 h) q
theorem dX10_forget_0 : decode cX10_forget 0 = .ok (.iload_n 1, 1) := by decide +kernel
theorem dX10_forget_1 : decode cX10_forget 1 = .ok (.iconst 0, 1) := by decide +kernel
theorem dX10_forget_2 : decode cX10_forget 2 = .ok (.iconst 1, 1) := by decide +kernel
theorem dX10_forget_3 : decode cX10_forget 3 = .ok (.invokestatic 62, 3) := by decide +kernel
theorem dX10_forget_6 : decode cX10_forget 6 = .ok (.ifCond .ne 10, 3) := by decide +kernel
theorem dX10_forget_9 : decode cX10_forget 9 = .ok (.aload_n 0, 1) := by decide +kernel
theorem dX10_forget_10 : decode cX10_forget 10 = .ok (.bipush (-2), 2) := by decide +kernel
theorem dX10_forget_12 : decode cX10_forget 12 = .ok (.invokevirtual 66, 3) := by decide +kernel
theorem dX10_forget_15 : decode cX10_forget 15 = .ok (.ireturn, 1) := by decide +kernel
theorem dX10_forget_16 : decode cX10_forget 16 = .ok (.iload_n 1, 1) := by decide +kernel
theorem dX10_forget_17 : decode cX10_forget 17 = .ok (.ifCond .ne 16, 3) := by decide +kernel
theorem dX10_forget_20 : decode cX10_forget 20 = .ok (.aload_n 0, 1) := by decide +kernel
theorem dX10_forget_21 : decode cX10_forget 21 = .ok (.getfield 10, 3) := by decide +kernel
theorem dX10_forget_24 : decode cX10_forget 24 = .ok (.getfield 248, 3) := by decide +kernel
theorem dX10_forget_27 : decode cX10_forget 27 = .ok (.invokevirtual 262, 3) := by decide +kernel
theorem dX10_forget_30 : decode cX10_forget 30 = .ok (.goto 13, 3) := by decide +kernel
theorem dX10_forget_33 : decode cX10_forget 33 = .ok (.aload_n 0, 1) := by decide +kernel
theorem dX10_forget_34 : decode cX10_forget 34 = .ok (.getfield 10, 3) := by decide +kernel
theorem dX10_forget_37 : decode cX10_forget 37 = .ok (.getfield 259, 3) := by decide +kernel
theorem dX10_forget_40 : decode cX10_forget 40 = .ok (.invokevirtual 262, 3) := by decide +kernel
theorem dX10_forget_43 : decode cX10_forget 43 = .ok (.ireturn, 1) := by decide +kernel
def fX10_forget_43 (s0 : Int32) (h : gx_H) : Option (Int32 × gx_H) :=
  some (s0, h)
def fX10_forget (v0 : Nat) (v1 : Int32) (h : gx_H) : Option (Int32 × gx_H) :=
  (gx_isO h v0 8).bind fun _ =>
  gx_bd (fX10_within v1 (0 : Int32) (1 : Int32) h) fun x2 h1 =>
  if x2 = 0 then
    gx_bd (fX10_refuse v0 (-2 : Int32) h1) fun x12 h11 =>
    some (x12, h11)
  else
    if v1 = 0 then
      (gx_fR h1 v0 8 0).bind fun a7 =>
      (gx_fR h1 a7 1 2).bind fun a8 =>
      gx_bd (fX7_empty a8 h1) fun x10 h9 =>
      fX10_forget_43 x10 h9
    else
      (gx_fR h1 v0 8 0).bind fun a3 =>
      (gx_fR h1 a3 1 3).bind fun a4 =>
      gx_bd (fX7_empty a4 h1) fun x6 h5 =>
      fX10_forget_43 x6 h5
set_option maxRecDepth 100000 in
set_option maxHeartbeats 4000000 in
theorem gX10_forget_43 {E : gx_Env} {d : Nat}  : ∀ (s0 : Int32) (h : gx_H), gx_G E RX10 cX10_forget 2 (some .int) false (d + 1) 0 0 43 [none, none] [.int s0] h (fun x : Int32 => some (.int x)) (fX10_forget_43 s0 h) := by
  intro s0 h
  unfold fX10_forget_43
  exact gx_iret dX10_forget_43 rfl
set_option maxRecDepth 100000 in
set_option maxHeartbeats 4000000 in
theorem geX10_forget {E : gx_Env} {d : Nat} (v0 : Nat) (v1 : Int32) (h : gx_H) : gx_G E RX10 cX10_forget 2 (some .int) false (d + 1) 0 0 0 [some (.ref v0), some (.int v1)] [] h (fun x : Int32 => some (.int x)) (fX10_forget v0 v1 h) := by
  unfold fX10_forget
  refine gx_bind fun _ _ => ?_
  refine gx_iload_n 1 dX10_forget_0 rfl rfl ?_
  refine gx_iconst (0 : Int32) dX10_forget_1 (by decide) ?_
  refine gx_iconst (1 : Int32) dX10_forget_2 (by decide) ?_
  refine gx_callS (bc := 0) (bs := 0) (mc := 0) (ms := 0) (em' := (fun x : Int32 => some (.int x))) [.int v1, .int (0 : Int32), .int (1 : Int32)] kc_RX10_62 dX10_forget_3 rfl rfl (gx_w8 rfl) (fun _ _ q => okX10_within d q) (fun x2 h1 => ?_)
  refine gx_if_ne 16 dX10_forget_6 (by decide) (fun _ => ?_) (fun _ => ?_)
  · refine gx_iload_n 1 dX10_forget_16 rfl rfl ?_
    refine gx_if_ne 33 dX10_forget_17 (by decide) (fun _ => ?_) (fun _ => ?_)
    · refine gx_aload_n 0 dX10_forget_33 rfl rfl ?_
      refine gx_getR kf_RX10_10 dX10_forget_34 (fun a3 => ?_)
      refine gx_getR kf_RX10_259 dX10_forget_37 (fun a4 => ?_)
      refine gx_callV (ci := 5) (bc := 0) (bs := 0) (mc := 0) (ms := 0) (em' := (fun x : Int32 => some (.int x))) [] kc_RX10_262 rfl dX10_forget_40 rfl rfl (gx_w8 rfl) (fun x q => (gx_isO_of (by unfold fX7_empty at q; exact q)).2) (fun _ _ q => okX7_empty d q) (fun x6 h5 => ?_)
      exact gx_sub (gX10_forget_43 x6 h5) True.intro
    · refine gx_aload_n 0 dX10_forget_20 rfl rfl ?_
      refine gx_getR kf_RX10_10 dX10_forget_21 (fun a7 => ?_)
      refine gx_getR kf_RX10_248 dX10_forget_24 (fun a8 => ?_)
      refine gx_callV (ci := 5) (bc := 0) (bs := 0) (mc := 0) (ms := 0) (em' := (fun x : Int32 => some (.int x))) [] kc_RX10_262 rfl dX10_forget_27 rfl rfl (gx_w8 rfl) (fun x q => (gx_isO_of (by unfold fX7_empty at q; exact q)).2) (fun _ _ q => okX7_empty d q) (fun x10 h9 => ?_)
      refine gx_goto 43 dX10_forget_30 (by decide) ?_
      exact gx_sub (gX10_forget_43 x10 h9) True.intro
  · refine gx_aload_n 0 dX10_forget_9 rfl rfl ?_
    refine gx_bipush (-2 : Int32) dX10_forget_10 (by decide) ?_
    refine gx_callV (ci := 8) (bc := 0) (bs := 0) (mc := 0) (ms := 0) (em' := (fun x : Int32 => some (.int x))) [.int (-2 : Int32)] kc_RX10_66 rfl dX10_forget_12 rfl rfl (gx_w8 rfl) (fun x q => (gx_isO_of (by unfold fX10_refuse at q; exact q)).2) (fun _ _ q => okX10_refuse d q) (fun x12 h11 => ?_)
    exact gx_iret dX10_forget_15 rfl
theorem okX10_forget {E : gx_Env} (d : Nat) {v0 : Nat} {v1 : Int32} {h : gx_H} {r : Int32} {h1 : gx_H} (q : fX10_forget v0 v1 h = some (r, h1)) : gx_M E yX10_forget cX10_forget 2 (some .int) (d + 1) 0 0 [.ref v0, .int v1] h ((fun x : Int32 => some (.int x)) r) h1 := gx_meth (y := yX10_forget) (cc := cX10_forget) (nL := 2) (em := (fun x : Int32 => some (.int x))) (ini := false) [.ref v0, .int v1] (by decide) (by simp [gx_sl]) (fun q => by cases q) (geX10_forget v0 v1 h) q
theorem dX10_is_0 : decode cX10_is 0 = .ok (.aload_n 0, 1) := by decide +kernel
theorem dX10_is_1 : decode cX10_is 1 = .ok (.iload_n 1, 1) := by decide +kernel
theorem dX10_is_2 : decode cX10_is 2 = .ok (.invokevirtual 172, 3) := by decide +kernel
theorem dX10_is_5 : decode cX10_is 5 = .ok (.ifCond .ne 10, 3) := by decide +kernel
theorem dX10_is_8 : decode cX10_is 8 = .ok (.aload_n 0, 1) := by decide +kernel
theorem dX10_is_9 : decode cX10_is 9 = .ok (.bipush (-2), 2) := by decide +kernel
theorem dX10_is_11 : decode cX10_is 11 = .ok (.invokevirtual 66, 3) := by decide +kernel
theorem dX10_is_14 : decode cX10_is 14 = .ok (.ireturn, 1) := by decide +kernel
theorem dX10_is_15 : decode cX10_is 15 = .ok (.aload_n 0, 1) := by decide +kernel
theorem dX10_is_16 : decode cX10_is 16 = .ok (.getfield 41, 3) := by decide +kernel
theorem dX10_is_19 : decode cX10_is 19 = .ok (.aload_n 0, 1) := by decide +kernel
theorem dX10_is_20 : decode cX10_is 20 = .ok (.getfield 10, 3) := by decide +kernel
theorem dX10_is_23 : decode cX10_is 23 = .ok (.getfield 70, 3) := by decide +kernel
theorem dX10_is_26 : decode cX10_is 26 = .ok (.aload_n 0, 1) := by decide +kernel
theorem dX10_is_27 : decode cX10_is 27 = .ok (.getfield 10, 3) := by decide +kernel
theorem dX10_is_30 : decode cX10_is 30 = .ok (.getfield 248, 3) := by decide +kernel
theorem dX10_is_33 : decode cX10_is 33 = .ok (.iload_n 1, 1) := by decide +kernel
theorem dX10_is_34 : decode cX10_is 34 = .ok (.invokevirtual 263, 3) := by decide +kernel
theorem dX10_is_37 : decode cX10_is 37 = .ok (.ireturn, 1) := by decide +kernel
def fX10_is (v0 : Nat) (v1 : Int32) (h : gx_H) : Option (Int32 × gx_H) :=
  (gx_isO h v0 8).bind fun _ =>
  gx_bd (fX10_isLink v0 v1 h) fun x2 h1 =>
  if x2 = 0 then
    gx_bd (fX10_refuse v0 (-2 : Int32) h1) fun x11 h10 =>
    some (x11, h10)
  else
    (gx_fR h1 v0 8 5).bind fun a3 =>
    (gx_fR h1 v0 8 0).bind fun a4 =>
    (gx_fR h1 a4 1 0).bind fun a5 =>
    (gx_fR h1 v0 8 0).bind fun a6 =>
    (gx_fR h1 a6 1 2).bind fun a7 =>
    gx_bd (fX2_linkKinds a3 a5 a7 v1 h1) fun x9 h8 =>
    some (x9, h8)
set_option maxRecDepth 100000 in
set_option maxHeartbeats 4000000 in
theorem geX10_is {E : gx_Env} {d : Nat} (v0 : Nat) (v1 : Int32) (h : gx_H) : gx_G E RX10 cX10_is 2 (some .int) false (d + 5) 0 0 0 [some (.ref v0), some (.int v1)] [] h (fun x : Int32 => some (.int x)) (fX10_is v0 v1 h) := by
  unfold fX10_is
  refine gx_bind fun _ _ => ?_
  refine gx_aload_n 0 dX10_is_0 rfl rfl ?_
  refine gx_iload_n 1 dX10_is_1 rfl rfl ?_
  refine gx_callV (ci := 8) (bc := 0) (bs := 0) (mc := 0) (ms := 0) (em' := (fun x : Int32 => some (.int x))) [.int v1] kc_RX10_172 rfl dX10_is_2 rfl rfl (gx_w8 rfl) (fun x q => (gx_isO_of (by unfold fX10_isLink at q; exact q)).2) (fun _ _ q => okX10_isLink (d + 3) q) (fun x2 h1 => ?_)
  refine gx_if_ne 15 dX10_is_5 (by decide) (fun _ => ?_) (fun _ => ?_)
  · refine gx_aload_n 0 dX10_is_15 rfl rfl ?_
    refine gx_getR kf_RX10_41 dX10_is_16 (fun a3 => ?_)
    refine gx_aload_n 0 dX10_is_19 rfl rfl ?_
    refine gx_getR kf_RX10_10 dX10_is_20 (fun a4 => ?_)
    refine gx_getR kf_RX10_70 dX10_is_23 (fun a5 => ?_)
    refine gx_aload_n 0 dX10_is_26 rfl rfl ?_
    refine gx_getR kf_RX10_10 dX10_is_27 (fun a6 => ?_)
    refine gx_getR kf_RX10_248 dX10_is_30 (fun a7 => ?_)
    refine gx_iload_n 1 dX10_is_33 rfl rfl ?_
    refine gx_callV (ci := 2) (bc := 0) (bs := 0) (mc := 0) (ms := 0) (em' := (fun x : Int32 => some (.int x))) [.ref a5, .ref a7, .int v1] kc_RX10_263 rfl dX10_is_34 rfl rfl (gx_w8 rfl) (fun x q => (gx_isO_of (by unfold fX2_linkKinds at q; exact q)).2) (fun _ _ q => okX2_linkKinds d q) (fun x9 h8 => ?_)
    exact gx_iret dX10_is_37 rfl
  · refine gx_aload_n 0 dX10_is_8 rfl rfl ?_
    refine gx_bipush (-2 : Int32) dX10_is_9 (by decide) ?_
    refine gx_callV (ci := 8) (bc := 0) (bs := 0) (mc := 0) (ms := 0) (em' := (fun x : Int32 => some (.int x))) [.int (-2 : Int32)] kc_RX10_66 rfl dX10_is_11 rfl rfl (gx_w8 rfl) (fun x q => (gx_isO_of (by unfold fX10_refuse at q; exact q)).2) (fun _ _ q => okX10_refuse (d + 4) q) (fun x11 h10 => ?_)
    exact gx_iret dX10_is_14 rfl
theorem okX10_is {E : gx_Env} (d : Nat) {v0 : Nat} {v1 : Int32} {h : gx_H} {r : Int32} {h1 : gx_H} (q : fX10_is v0 v1 h = some (r, h1)) : gx_M E yX10_is cX10_is 2 (some .int) (d + 5) 0 0 [.ref v0, .int v1] h ((fun x : Int32 => some (.int x)) r) h1 := gx_meth (y := yX10_is) (cc := cX10_is) (nL := 2) (em := (fun x : Int32 => some (.int x))) (ini := false) [.ref v0, .int v1] (by decide) (by simp [gx_sl]) (fun q => by cases q) (geX10_is v0 v1 h) q
theorem dX10_look_0 : decode cX10_look 0 = .ok (.aload_n 0, 1) := by decide +kernel
theorem dX10_look_1 : decode cX10_look 1 = .ok (.iload_n 1, 1) := by decide +kernel
theorem dX10_look_2 : decode cX10_look 2 = .ok (.invokevirtual 172, 3) := by decide +kernel
theorem dX10_look_5 : decode cX10_look 5 = .ok (.ifCond .ne 10, 3) := by decide +kernel
theorem dX10_look_8 : decode cX10_look 8 = .ok (.aload_n 0, 1) := by decide +kernel
theorem dX10_look_9 : decode cX10_look 9 = .ok (.bipush (-2), 2) := by decide +kernel
theorem dX10_look_11 : decode cX10_look 11 = .ok (.invokevirtual 66, 3) := by decide +kernel
theorem dX10_look_14 : decode cX10_look 14 = .ok (.ireturn, 1) := by decide +kernel
theorem dX10_look_15 : decode cX10_look 15 = .ok (.aload_n 0, 1) := by decide +kernel
theorem dX10_look_16 : decode cX10_look 16 = .ok (.getfield 41, 3) := by decide +kernel
theorem dX10_look_19 : decode cX10_look 19 = .ok (.aload_n 0, 1) := by decide +kernel
theorem dX10_look_20 : decode cX10_look 20 = .ok (.getfield 10, 3) := by decide +kernel
theorem dX10_look_23 : decode cX10_look 23 = .ok (.getfield 70, 3) := by decide +kernel
theorem dX10_look_26 : decode cX10_look 26 = .ok (.aload_n 0, 1) := by decide +kernel
theorem dX10_look_27 : decode cX10_look 27 = .ok (.getfield 10, 3) := by decide +kernel
theorem dX10_look_30 : decode cX10_look 30 = .ok (.getfield 248, 3) := by decide +kernel
theorem dX10_look_33 : decode cX10_look 33 = .ok (.iload_n 1, 1) := by decide +kernel
theorem dX10_look_34 : decode cX10_look 34 = .ok (.invokevirtual 267, 3) := by decide +kernel
theorem dX10_look_37 : decode cX10_look 37 = .ok (.ireturn, 1) := by decide +kernel
def fX10_look (v0 : Nat) (v1 : Int32) (h : gx_H) : Option (Int32 × gx_H) :=
  (gx_isO h v0 8).bind fun _ =>
  gx_bd (fX10_isLink v0 v1 h) fun x2 h1 =>
  if x2 = 0 then
    gx_bd (fX10_refuse v0 (-2 : Int32) h1) fun x11 h10 =>
    some (x11, h10)
  else
    (gx_fR h1 v0 8 5).bind fun a3 =>
    (gx_fR h1 v0 8 0).bind fun a4 =>
    (gx_fR h1 a4 1 0).bind fun a5 =>
    (gx_fR h1 v0 8 0).bind fun a6 =>
    (gx_fR h1 a6 1 2).bind fun a7 =>
    gx_bd (fX2_bestLook a3 a5 a7 v1 h1) fun x9 h8 =>
    some (x9, h8)
set_option maxRecDepth 100000 in
set_option maxHeartbeats 4000000 in
theorem geX10_look {E : gx_Env} {d : Nat} (v0 : Nat) (v1 : Int32) (h : gx_H) : gx_G E RX10 cX10_look 2 (some .int) false (d + 6) 0 0 0 [some (.ref v0), some (.int v1)] [] h (fun x : Int32 => some (.int x)) (fX10_look v0 v1 h) := by
  unfold fX10_look
  refine gx_bind fun _ _ => ?_
  refine gx_aload_n 0 dX10_look_0 rfl rfl ?_
  refine gx_iload_n 1 dX10_look_1 rfl rfl ?_
  refine gx_callV (ci := 8) (bc := 0) (bs := 0) (mc := 0) (ms := 0) (em' := (fun x : Int32 => some (.int x))) [.int v1] kc_RX10_172 rfl dX10_look_2 rfl rfl (gx_w8 rfl) (fun x q => (gx_isO_of (by unfold fX10_isLink at q; exact q)).2) (fun _ _ q => okX10_isLink (d + 4) q) (fun x2 h1 => ?_)
  refine gx_if_ne 15 dX10_look_5 (by decide) (fun _ => ?_) (fun _ => ?_)
  · refine gx_aload_n 0 dX10_look_15 rfl rfl ?_
    refine gx_getR kf_RX10_41 dX10_look_16 (fun a3 => ?_)
    refine gx_aload_n 0 dX10_look_19 rfl rfl ?_
    refine gx_getR kf_RX10_10 dX10_look_20 (fun a4 => ?_)
    refine gx_getR kf_RX10_70 dX10_look_23 (fun a5 => ?_)
    refine gx_aload_n 0 dX10_look_26 rfl rfl ?_
    refine gx_getR kf_RX10_10 dX10_look_27 (fun a6 => ?_)
    refine gx_getR kf_RX10_248 dX10_look_30 (fun a7 => ?_)
    refine gx_iload_n 1 dX10_look_33 rfl rfl ?_
    refine gx_callV (ci := 2) (bc := 0) (bs := 0) (mc := 0) (ms := 0) (em' := (fun x : Int32 => some (.int x))) [.ref a5, .ref a7, .int v1] kc_RX10_267 rfl dX10_look_34 rfl rfl (gx_w8 rfl) (fun x q => (gx_isO_of (by unfold fX2_bestLook at q; exact q)).2) (fun _ _ q => okX2_bestLook d q) (fun x9 h8 => ?_)
    exact gx_iret dX10_look_37 rfl
  · refine gx_aload_n 0 dX10_look_8 rfl rfl ?_
    refine gx_bipush (-2 : Int32) dX10_look_9 (by decide) ?_
    refine gx_callV (ci := 8) (bc := 0) (bs := 0) (mc := 0) (ms := 0) (em' := (fun x : Int32 => some (.int x))) [.int (-2 : Int32)] kc_RX10_66 rfl dX10_look_11 rfl rfl (gx_w8 rfl) (fun x q => (gx_isO_of (by unfold fX10_refuse at q; exact q)).2) (fun _ _ q => okX10_refuse (d + 5) q) (fun x11 h10 => ?_)
    exact gx_iret dX10_look_14 rfl
theorem okX10_look {E : gx_Env} (d : Nat) {v0 : Nat} {v1 : Int32} {h : gx_H} {r : Int32} {h1 : gx_H} (q : fX10_look v0 v1 h = some (r, h1)) : gx_M E yX10_look cX10_look 2 (some .int) (d + 6) 0 0 [.ref v0, .int v1] h ((fun x : Int32 => some (.int x)) r) h1 := gx_meth (y := yX10_look) (cc := cX10_look) (nL := 2) (em := (fun x : Int32 => some (.int x))) (ini := false) [.ref v0, .int v1] (by decide) (by simp [gx_sl]) (fun q => by cases q) (geX10_look v0 v1 h) q
theorem dX10_kinds_0 : decode cX10_kinds 0 = .ok (.aload_n 0, 1) := by decide +kernel
theorem dX10_kinds_1 : decode cX10_kinds 1 = .ok (.iload_n 1, 1) := by decide +kernel
theorem dX10_kinds_2 : decode cX10_kinds 2 = .ok (.invokevirtual 134, 3) := by decide +kernel
theorem dX10_kinds_5 : decode cX10_kinds 5 = .ok (.ifCond .ne 10, 3) := by decide +kernel
theorem dX10_kinds_8 : decode cX10_kinds 8 = .ok (.aload_n 0, 1) := by decide +kernel
theorem dX10_kinds_9 : decode cX10_kinds 9 = .ok (.bipush (-2), 2) := by decide +kernel
theorem dX10_kinds_11 : decode cX10_kinds 11 = .ok (.invokevirtual 66, 3) := by decide +kernel
theorem dX10_kinds_14 : decode cX10_kinds 14 = .ok (.ireturn, 1) := by decide +kernel
theorem dX10_kinds_15 : decode cX10_kinds 15 = .ok (.aload_n 0, 1) := by decide +kernel
theorem dX10_kinds_16 : decode cX10_kinds 16 = .ok (.getfield 41, 3) := by decide +kernel
theorem dX10_kinds_19 : decode cX10_kinds 19 = .ok (.aload_n 0, 1) := by decide +kernel
theorem dX10_kinds_20 : decode cX10_kinds 20 = .ok (.getfield 10, 3) := by decide +kernel
theorem dX10_kinds_23 : decode cX10_kinds 23 = .ok (.getfield 70, 3) := by decide +kernel
theorem dX10_kinds_26 : decode cX10_kinds 26 = .ok (.aload_n 0, 1) := by decide +kernel
theorem dX10_kinds_27 : decode cX10_kinds 27 = .ok (.getfield 10, 3) := by decide +kernel
theorem dX10_kinds_30 : decode cX10_kinds 30 = .ok (.getfield 259, 3) := by decide +kernel
theorem dX10_kinds_33 : decode cX10_kinds 33 = .ok (.iload_n 1, 1) := by decide +kernel
theorem dX10_kinds_34 : decode cX10_kinds 34 = .ok (.invokevirtual 270, 3) := by decide +kernel
theorem dX10_kinds_37 : decode cX10_kinds 37 = .ok (.ireturn, 1) := by decide +kernel
def fX10_kinds (v0 : Nat) (v1 : Int32) (h : gx_H) : Option (Int32 × gx_H) :=
  (gx_isO h v0 8).bind fun _ =>
  gx_bd (fX10_isPlayer v0 v1 h) fun x2 h1 =>
  if x2 = 0 then
    gx_bd (fX10_refuse v0 (-2 : Int32) h1) fun x11 h10 =>
    some (x11, h10)
  else
    (gx_fR h1 v0 8 5).bind fun a3 =>
    (gx_fR h1 v0 8 0).bind fun a4 =>
    (gx_fR h1 a4 1 0).bind fun a5 =>
    (gx_fR h1 v0 8 0).bind fun a6 =>
    (gx_fR h1 a6 1 3).bind fun a7 =>
    gx_bd (fX2_playerKinds a3 a5 a7 v1 h1) fun x9 h8 =>
    some (x9, h8)
set_option maxRecDepth 100000 in
set_option maxHeartbeats 4000000 in
theorem geX10_kinds {E : gx_Env} {d : Nat} (v0 : Nat) (v1 : Int32) (h : gx_H) : gx_G E RX10 cX10_kinds 2 (some .int) false (d + 4) 0 0 0 [some (.ref v0), some (.int v1)] [] h (fun x : Int32 => some (.int x)) (fX10_kinds v0 v1 h) := by
  unfold fX10_kinds
  refine gx_bind fun _ _ => ?_
  refine gx_aload_n 0 dX10_kinds_0 rfl rfl ?_
  refine gx_iload_n 1 dX10_kinds_1 rfl rfl ?_
  refine gx_callV (ci := 8) (bc := 0) (bs := 0) (mc := 0) (ms := 0) (em' := (fun x : Int32 => some (.int x))) [.int v1] kc_RX10_134 rfl dX10_kinds_2 rfl rfl (gx_w8 rfl) (fun x q => (gx_isO_of (by unfold fX10_isPlayer at q; exact q)).2) (fun _ _ q => okX10_isPlayer (d + 2) q) (fun x2 h1 => ?_)
  refine gx_if_ne 15 dX10_kinds_5 (by decide) (fun _ => ?_) (fun _ => ?_)
  · refine gx_aload_n 0 dX10_kinds_15 rfl rfl ?_
    refine gx_getR kf_RX10_41 dX10_kinds_16 (fun a3 => ?_)
    refine gx_aload_n 0 dX10_kinds_19 rfl rfl ?_
    refine gx_getR kf_RX10_10 dX10_kinds_20 (fun a4 => ?_)
    refine gx_getR kf_RX10_70 dX10_kinds_23 (fun a5 => ?_)
    refine gx_aload_n 0 dX10_kinds_26 rfl rfl ?_
    refine gx_getR kf_RX10_10 dX10_kinds_27 (fun a6 => ?_)
    refine gx_getR kf_RX10_259 dX10_kinds_30 (fun a7 => ?_)
    refine gx_iload_n 1 dX10_kinds_33 rfl rfl ?_
    refine gx_callV (ci := 2) (bc := 0) (bs := 0) (mc := 0) (ms := 0) (em' := (fun x : Int32 => some (.int x))) [.ref a5, .ref a7, .int v1] kc_RX10_270 rfl dX10_kinds_34 rfl rfl (gx_w8 rfl) (fun x q => (gx_isO_of (by unfold fX2_playerKinds at q; exact q)).2) (fun _ _ q => okX2_playerKinds d q) (fun x9 h8 => ?_)
    exact gx_iret dX10_kinds_37 rfl
  · refine gx_aload_n 0 dX10_kinds_8 rfl rfl ?_
    refine gx_bipush (-2 : Int32) dX10_kinds_9 (by decide) ?_
    refine gx_callV (ci := 8) (bc := 0) (bs := 0) (mc := 0) (ms := 0) (em' := (fun x : Int32 => some (.int x))) [.int (-2 : Int32)] kc_RX10_66 rfl dX10_kinds_11 rfl rfl (gx_w8 rfl) (fun x q => (gx_isO_of (by unfold fX10_refuse at q; exact q)).2) (fun _ _ q => okX10_refuse (d + 3) q) (fun x11 h10 => ?_)
    exact gx_iret dX10_kinds_14 rfl
theorem okX10_kinds {E : gx_Env} (d : Nat) {v0 : Nat} {v1 : Int32} {h : gx_H} {r : Int32} {h1 : gx_H} (q : fX10_kinds v0 v1 h = some (r, h1)) : gx_M E yX10_kinds cX10_kinds 2 (some .int) (d + 4) 0 0 [.ref v0, .int v1] h ((fun x : Int32 => some (.int x)) r) h1 := gx_meth (y := yX10_kinds) (cc := cX10_kinds) (nL := 2) (em := (fun x : Int32 => some (.int x))) (ini := false) [.ref v0, .int v1] (by decide) (by simp [gx_sl]) (fun q => by cases q) (geX10_kinds v0 v1 h) q
theorem dX10_ask_0 : decode cX10_ask 0 = .ok (.aload_n 0, 1) := by decide +kernel
theorem dX10_ask_1 : decode cX10_ask 1 = .ok (.iload_n 1, 1) := by decide +kernel
theorem dX10_ask_2 : decode cX10_ask 2 = .ok (.invokevirtual 134, 3) := by decide +kernel
theorem dX10_ask_5 : decode cX10_ask 5 = .ok (.ifCond .ne 10, 3) := by decide +kernel
theorem dX10_ask_8 : decode cX10_ask 8 = .ok (.aload_n 0, 1) := by decide +kernel
theorem dX10_ask_9 : decode cX10_ask 9 = .ok (.bipush (-2), 2) := by decide +kernel
theorem dX10_ask_11 : decode cX10_ask 11 = .ok (.invokevirtual 66, 3) := by decide +kernel
theorem dX10_ask_14 : decode cX10_ask 14 = .ok (.ireturn, 1) := by decide +kernel
theorem dX10_ask_15 : decode cX10_ask 15 = .ok (.aload_n 0, 1) := by decide +kernel
theorem dX10_ask_16 : decode cX10_ask 16 = .ok (.getfield 41, 3) := by decide +kernel
theorem dX10_ask_19 : decode cX10_ask 19 = .ok (.aload_n 0, 1) := by decide +kernel
theorem dX10_ask_20 : decode cX10_ask 20 = .ok (.getfield 10, 3) := by decide +kernel
theorem dX10_ask_23 : decode cX10_ask 23 = .ok (.getfield 70, 3) := by decide +kernel
theorem dX10_ask_26 : decode cX10_ask 26 = .ok (.aload_n 0, 1) := by decide +kernel
theorem dX10_ask_27 : decode cX10_ask 27 = .ok (.getfield 10, 3) := by decide +kernel
theorem dX10_ask_30 : decode cX10_ask 30 = .ok (.getfield 259, 3) := by decide +kernel
theorem dX10_ask_33 : decode cX10_ask 33 = .ok (.iload_n 1, 1) := by decide +kernel
theorem dX10_ask_34 : decode cX10_ask 34 = .ok (.invokevirtual 273, 3) := by decide +kernel
theorem dX10_ask_37 : decode cX10_ask 37 = .ok (.ireturn, 1) := by decide +kernel
def fX10_ask (v0 : Nat) (v1 : Int32) (h : gx_H) : Option (Int32 × gx_H) :=
  (gx_isO h v0 8).bind fun _ =>
  gx_bd (fX10_isPlayer v0 v1 h) fun x2 h1 =>
  if x2 = 0 then
    gx_bd (fX10_refuse v0 (-2 : Int32) h1) fun x11 h10 =>
    some (x11, h10)
  else
    (gx_fR h1 v0 8 5).bind fun a3 =>
    (gx_fR h1 v0 8 0).bind fun a4 =>
    (gx_fR h1 a4 1 0).bind fun a5 =>
    (gx_fR h1 v0 8 0).bind fun a6 =>
    (gx_fR h1 a6 1 3).bind fun a7 =>
    gx_bd (fX2_bestAsk a3 a5 a7 v1 h1) fun x9 h8 =>
    some (x9, h8)
set_option maxRecDepth 100000 in
set_option maxHeartbeats 4000000 in
theorem geX10_ask {E : gx_Env} {d : Nat} (v0 : Nat) (v1 : Int32) (h : gx_H) : gx_G E RX10 cX10_ask 2 (some .int) false (d + 5) 0 0 0 [some (.ref v0), some (.int v1)] [] h (fun x : Int32 => some (.int x)) (fX10_ask v0 v1 h) := by
  unfold fX10_ask
  refine gx_bind fun _ _ => ?_
  refine gx_aload_n 0 dX10_ask_0 rfl rfl ?_
  refine gx_iload_n 1 dX10_ask_1 rfl rfl ?_
  refine gx_callV (ci := 8) (bc := 0) (bs := 0) (mc := 0) (ms := 0) (em' := (fun x : Int32 => some (.int x))) [.int v1] kc_RX10_134 rfl dX10_ask_2 rfl rfl (gx_w8 rfl) (fun x q => (gx_isO_of (by unfold fX10_isPlayer at q; exact q)).2) (fun _ _ q => okX10_isPlayer (d + 3) q) (fun x2 h1 => ?_)
  refine gx_if_ne 15 dX10_ask_5 (by decide) (fun _ => ?_) (fun _ => ?_)
  · refine gx_aload_n 0 dX10_ask_15 rfl rfl ?_
    refine gx_getR kf_RX10_41 dX10_ask_16 (fun a3 => ?_)
    refine gx_aload_n 0 dX10_ask_19 rfl rfl ?_
    refine gx_getR kf_RX10_10 dX10_ask_20 (fun a4 => ?_)
    refine gx_getR kf_RX10_70 dX10_ask_23 (fun a5 => ?_)
    refine gx_aload_n 0 dX10_ask_26 rfl rfl ?_
    refine gx_getR kf_RX10_10 dX10_ask_27 (fun a6 => ?_)
    refine gx_getR kf_RX10_259 dX10_ask_30 (fun a7 => ?_)
    refine gx_iload_n 1 dX10_ask_33 rfl rfl ?_
    refine gx_callV (ci := 2) (bc := 0) (bs := 0) (mc := 0) (ms := 0) (em' := (fun x : Int32 => some (.int x))) [.ref a5, .ref a7, .int v1] kc_RX10_273 rfl dX10_ask_34 rfl rfl (gx_w8 rfl) (fun x q => (gx_isO_of (by unfold fX2_bestAsk at q; exact q)).2) (fun _ _ q => okX2_bestAsk d q) (fun x9 h8 => ?_)
    exact gx_iret dX10_ask_37 rfl
  · refine gx_aload_n 0 dX10_ask_8 rfl rfl ?_
    refine gx_bipush (-2 : Int32) dX10_ask_9 (by decide) ?_
    refine gx_callV (ci := 8) (bc := 0) (bs := 0) (mc := 0) (ms := 0) (em' := (fun x : Int32 => some (.int x))) [.int (-2 : Int32)] kc_RX10_66 rfl dX10_ask_11 rfl rfl (gx_w8 rfl) (fun x q => (gx_isO_of (by unfold fX10_refuse at q; exact q)).2) (fun _ _ q => okX10_refuse (d + 4) q) (fun x11 h10 => ?_)
    exact gx_iret dX10_ask_14 rfl
theorem okX10_ask {E : gx_Env} (d : Nat) {v0 : Nat} {v1 : Int32} {h : gx_H} {r : Int32} {h1 : gx_H} (q : fX10_ask v0 v1 h = some (r, h1)) : gx_M E yX10_ask cX10_ask 2 (some .int) (d + 5) 0 0 [.ref v0, .int v1] h ((fun x : Int32 => some (.int x)) r) h1 := gx_meth (y := yX10_ask) (cc := cX10_ask) (nL := 2) (em := (fun x : Int32 => some (.int x))) (ini := false) [.ref v0, .int v1] (by decide) (by simp [gx_sl]) (fun q => by cases q) (geX10_ask v0 v1 h) q
theorem dX10_choice_0 : decode cX10_choice 0 = .ok (.aload_n 0, 1) := by decide +kernel
theorem dX10_choice_1 : decode cX10_choice 1 = .ok (.iload_n 1, 1) := by decide +kernel
theorem dX10_choice_2 : decode cX10_choice 2 = .ok (.iload_n 2, 1) := by decide +kernel
theorem dX10_choice_3 : decode cX10_choice 3 = .ok (.invokevirtual 219, 3) := by decide +kernel
theorem dX10_choice_6 : decode cX10_choice 6 = .ok (.ifCond .eq 8, 3) := by decide +kernel
theorem dX10_choice_9 : decode cX10_choice 9 = .ok (.iload_n 3, 1) := by decide +kernel
theorem dX10_choice_10 : decode cX10_choice 10 = .ok (.iconst (-1), 1) := by decide +kernel
theorem dX10_choice_11 : decode cX10_choice 11 = .ok (.if_icmp .ge 8, 3) := by decide +kernel
theorem dX10_choice_14 : decode cX10_choice 14 = .ok (.aload_n 0, 1) := by decide +kernel
theorem dX10_choice_15 : decode cX10_choice 15 = .ok (.invokevirtual 191, 3) := by decide +kernel
theorem dX10_choice_18 : decode cX10_choice 18 = .ok (.ireturn, 1) := by decide +kernel
theorem dX10_choice_19 : decode cX10_choice 19 = .ok (.aload_n 0, 1) := by decide +kernel
theorem dX10_choice_20 : decode cX10_choice 20 = .ok (.getfield 34, 3) := by decide +kernel
theorem dX10_choice_23 : decode cX10_choice 23 = .ok (.aload_n 0, 1) := by decide +kernel
theorem dX10_choice_24 : decode cX10_choice 24 = .ok (.getfield 10, 3) := by decide +kernel
theorem dX10_choice_27 : decode cX10_choice 27 = .ok (.getfield 70, 3) := by decide +kernel
theorem dX10_choice_30 : decode cX10_choice 30 = .ok (.iload_n 1, 1) := by decide +kernel
theorem dX10_choice_31 : decode cX10_choice 31 = .ok (.iload_n 2, 1) := by decide +kernel
theorem dX10_choice_32 : decode cX10_choice 32 = .ok (.invokevirtual 276, 3) := by decide +kernel
theorem dX10_choice_35 : decode cX10_choice 35 = .ok (.iload_n 3, 1) := by decide +kernel
theorem dX10_choice_36 : decode cX10_choice 36 = .ok (.iconst (-1), 1) := by decide +kernel
theorem dX10_choice_37 : decode cX10_choice 37 = .ok (.if_icmp .ne 11, 3) := by decide +kernel
theorem dX10_choice_40 : decode cX10_choice 40 = .ok (.aload_n 0, 1) := by decide +kernel
theorem dX10_choice_41 : decode cX10_choice 41 = .ok (.getfield 34, 3) := by decide +kernel
theorem dX10_choice_44 : decode cX10_choice 44 = .ok (.invokevirtual 279, 3) := by decide +kernel
theorem dX10_choice_47 : decode cX10_choice 47 = .ok (.ireturn, 1) := by decide +kernel
theorem dX10_choice_48 : decode cX10_choice 48 = .ok (.aload_n 0, 1) := by decide +kernel
theorem dX10_choice_49 : decode cX10_choice 49 = .ok (.getfield 34, 3) := by decide +kernel
theorem dX10_choice_52 : decode cX10_choice 52 = .ok (.iload_n 3, 1) := by decide +kernel
theorem dX10_choice_53 : decode cX10_choice 53 = .ok (.invokevirtual 282, 3) := by decide +kernel
theorem dX10_choice_56 : decode cX10_choice 56 = .ok (.istore 4, 2) := by decide +kernel
theorem dX10_choice_58 : decode cX10_choice 58 = .ok (.iload 4, 2) := by decide +kernel
theorem dX10_choice_60 : decode cX10_choice 60 = .ok (.iconst (-1), 1) := by decide +kernel
theorem dX10_choice_61 : decode cX10_choice 61 = .ok (.if_icmp .ne 8, 3) := by decide +kernel
theorem dX10_choice_64 : decode cX10_choice 64 = .ok (.bipush (-5), 2) := by decide +kernel
theorem dX10_choice_66 : decode cX10_choice 66 = .ok (.goto 5, 3) := by decide +kernel
theorem dX10_choice_69 : decode cX10_choice 69 = .ok (.iload 4, 2) := by decide +kernel
theorem dX10_choice_71 : decode cX10_choice 71 = .ok (.ireturn, 1) := by decide +kernel
def fX10_choice_14 (v0 : Nat) (h : gx_H) : Option (Int32 × gx_H) :=
  gx_bd (fX10_refuseByTen v0 h) fun x15 h14 =>
  some (x15, h14)
def fX10_choice_71 (s0 : Int32) (h : gx_H) : Option (Int32 × gx_H) :=
  some (s0, h)
def fX10_choice (v0 : Nat) (v1 : Int32) (v2 : Int32) (v3 : Int32) (h : gx_H) : Option (Int32 × gx_H) :=
  (gx_isO h v0 8).bind fun _ =>
  gx_bd (fX10_areUnlikePlayers v0 v1 v2 h) fun x2 h1 =>
  if x2 = 0 then
    fX10_choice_14 v0 h1
  else
    if (-1 : Int32) ≤ v3 then
      (gx_fR h1 v0 8 4).bind fun a3 =>
      (gx_fR h1 v0 8 0).bind fun a4 =>
      (gx_fR h1 a4 1 0).bind fun a5 =>
      gx_bd (fX5_weighPairs a3 a5 v1 v2 h1) fun u7 h6 =>
      if v3 = (-1 : Int32) then
        (gx_fR h6 v0 8 4).bind fun a11 =>
        gx_bd (fX5_restingPairs a11 h6) fun x13 h12 =>
        some (x13, h12)
      else
        (gx_fR h6 v0 8 4).bind fun a8 =>
        gx_bd (fX5_restingPair a8 v3 h6) fun x10 h9 =>
        if x10 = (-1 : Int32) then
          fX10_choice_71 (-5 : Int32) h9
        else
          fX10_choice_71 x10 h9
    else
      fX10_choice_14 v0 h1
set_option maxRecDepth 100000 in
set_option maxHeartbeats 4000000 in
theorem gX10_choice_14 {E : gx_Env} {d : Nat}  : ∀ (v0 : Nat) (h : gx_H), gx_G E RX10 cX10_choice 5 (some .int) false (d + 6) 0 0 14 [some (.ref v0), none, none, none, none] [] h (fun x : Int32 => some (.int x)) (fX10_choice_14 v0 h) := by
  intro v0 h
  unfold fX10_choice_14
  refine gx_aload_n 0 dX10_choice_14 rfl rfl ?_
  refine gx_callV (ci := 8) (bc := 0) (bs := 0) (mc := 0) (ms := 0) (em' := (fun x : Int32 => some (.int x))) [] kc_RX10_191 rfl dX10_choice_15 rfl rfl (gx_w8 rfl) (fun x q => (gx_isO_of (by unfold fX10_refuseByTen at q; exact q)).2) (fun _ _ q => okX10_refuseByTen (d + 4) q) (fun x15 h14 => ?_)
  exact gx_iret dX10_choice_18 rfl
set_option maxRecDepth 100000 in
set_option maxHeartbeats 4000000 in
theorem gX10_choice_71 {E : gx_Env} {d : Nat}  : ∀ (s0 : Int32) (h : gx_H), gx_G E RX10 cX10_choice 5 (some .int) false (d + 6) 0 0 71 [none, none, none, none, none] [.int s0] h (fun x : Int32 => some (.int x)) (fX10_choice_71 s0 h) := by
  intro s0 h
  unfold fX10_choice_71
  exact gx_iret dX10_choice_71 rfl
set_option maxRecDepth 100000 in
set_option maxHeartbeats 4000000 in
theorem geX10_choice {E : gx_Env} {d : Nat} (v0 : Nat) (v1 : Int32) (v2 : Int32) (v3 : Int32) (h : gx_H) : gx_G E RX10 cX10_choice 5 (some .int) false (d + 6) 0 0 0 [some (.ref v0), some (.int v1), some (.int v2), some (.int v3), none] [] h (fun x : Int32 => some (.int x)) (fX10_choice v0 v1 v2 v3 h) := by
  unfold fX10_choice
  refine gx_bind fun _ _ => ?_
  refine gx_aload_n 0 dX10_choice_0 rfl rfl ?_
  refine gx_iload_n 1 dX10_choice_1 rfl rfl ?_
  refine gx_iload_n 2 dX10_choice_2 rfl rfl ?_
  refine gx_callV (ci := 8) (bc := 0) (bs := 0) (mc := 0) (ms := 0) (em' := (fun x : Int32 => some (.int x))) [.int v1, .int v2] kc_RX10_219 rfl dX10_choice_3 rfl rfl (gx_w8 rfl) (fun x q => (gx_isO_of (by unfold fX10_areUnlikePlayers at q; exact q)).2) (fun _ _ q => okX10_areUnlikePlayers (d + 3) q) (fun x2 h1 => ?_)
  refine gx_if_eq 14 dX10_choice_6 (by decide) (fun _ => ?_) (fun _ => ?_)
  · exact gx_sub (gX10_choice_14 v0 h1) (And.intro rfl True.intro)
  · refine gx_iload_n 3 dX10_choice_9 rfl rfl ?_
    refine gx_iconst (-1 : Int32) dX10_choice_10 (by decide) ?_
    refine gx_icmp_ge 19 dX10_choice_11 (by decide) (fun _ => ?_) (fun _ => ?_)
    · refine gx_aload_n 0 dX10_choice_19 rfl rfl ?_
      refine gx_getR kf_RX10_34 dX10_choice_20 (fun a3 => ?_)
      refine gx_aload_n 0 dX10_choice_23 rfl rfl ?_
      refine gx_getR kf_RX10_10 dX10_choice_24 (fun a4 => ?_)
      refine gx_getR kf_RX10_70 dX10_choice_27 (fun a5 => ?_)
      refine gx_iload_n 1 dX10_choice_30 rfl rfl ?_
      refine gx_iload_n 2 dX10_choice_31 rfl rfl ?_
      refine gx_callV (ci := 4) (bc := 0) (bs := 0) (mc := 0) (ms := 0) (em' := (fun _ : Unit => none)) [.ref a5, .int v1, .int v2] kc_RX10_276 rfl dX10_choice_32 rfl rfl (gx_w8 rfl) (fun x q => (gx_isO_of (by unfold fX5_weighPairs at q; exact q)).2) (fun _ _ q => okX5_weighPairs d q) (fun u7 h6 => ?_)
      refine gx_iload_n 3 dX10_choice_35 rfl rfl ?_
      refine gx_iconst (-1 : Int32) dX10_choice_36 (by decide) ?_
      refine gx_icmp_ne 48 dX10_choice_37 (by decide) (fun _ => ?_) (fun _ => ?_)
      · refine gx_aload_n 0 dX10_choice_48 rfl rfl ?_
        refine gx_getR kf_RX10_34 dX10_choice_49 (fun a8 => ?_)
        refine gx_iload_n 3 dX10_choice_52 rfl rfl ?_
        refine gx_callV (ci := 4) (bc := 0) (bs := 0) (mc := 0) (ms := 0) (em' := (fun x : Int32 => some (.int x))) [.int v3] kc_RX10_282 rfl dX10_choice_53 rfl rfl (gx_w8 rfl) (fun x q => (gx_isO_of (by unfold fX5_restingPair at q; exact q)).2) (fun _ _ q => okX5_restingPair (d + 2) q) (fun x10 h9 => ?_)
        refine gx_istore [some (.ref v0), some (.int v1), some (.int v2), some (.int v3), some (.int x10)] dX10_choice_56 (by decide) rfl ?_
        refine gx_iload dX10_choice_58 rfl ?_
        refine gx_iconst (-1 : Int32) dX10_choice_60 (by decide) ?_
        refine gx_icmp_ne 69 dX10_choice_61 (by decide) (fun _ => ?_) (fun _ => ?_)
        · refine gx_iload dX10_choice_69 rfl ?_
          exact gx_sub (gX10_choice_71 x10 h9) True.intro
        · refine gx_bipush (-5 : Int32) dX10_choice_64 (by decide) ?_
          refine gx_goto 71 dX10_choice_66 (by decide) ?_
          exact gx_sub (gX10_choice_71 (-5 : Int32) h9) True.intro
      · refine gx_aload_n 0 dX10_choice_40 rfl rfl ?_
        refine gx_getR kf_RX10_34 dX10_choice_41 (fun a11 => ?_)
        refine gx_callV (ci := 4) (bc := 0) (bs := 0) (mc := 0) (ms := 0) (em' := (fun x : Int32 => some (.int x))) [] kc_RX10_279 rfl dX10_choice_44 rfl rfl (gx_w8 rfl) (fun x q => (gx_isO_of (by unfold fX5_restingPairs at q; exact q)).2) (fun _ _ q => okX5_restingPairs (d + 2) q) (fun x13 h12 => ?_)
        exact gx_iret dX10_choice_47 rfl
    · exact gx_sub (gX10_choice_14 v0 h1) (And.intro rfl True.intro)
theorem okX10_choice {E : gx_Env} (d : Nat) {v0 : Nat} {v1 : Int32} {v2 : Int32} {v3 : Int32} {h : gx_H} {r : Int32} {h1 : gx_H} (q : fX10_choice v0 v1 v2 v3 h = some (r, h1)) : gx_M E yX10_choice cX10_choice 5 (some .int) (d + 6) 0 0 [.ref v0, .int v1, .int v2, .int v3] h ((fun x : Int32 => some (.int x)) r) h1 := gx_meth (y := yX10_choice) (cc := cX10_choice) (nL := 5) (em := (fun x : Int32 => some (.int x))) (ini := false) [.ref v0, .int v1, .int v2, .int v3] (by decide) (by simp [gx_sl]) (fun q => by cases q) (geX10_choice v0 v1 v2 v3 h) q
theorem dX10_evenings_0 : decode cX10_evenings 0 = .ok (.iload_n 1, 1) := by decide +kernel
theorem dX10_evenings_1 : decode cX10_evenings 1 = .ok (.iconst 0, 1) := by decide +kernel
theorem dX10_evenings_2 : decode cX10_evenings 2 = .ok (.ldc_w 285, 3) := by decide +kernel
theorem dX10_evenings_5 : decode cX10_evenings 5 = .ok (.invokestatic 62, 3) := by decide +kernel
theorem dX10_evenings_8 : decode cX10_evenings 8 = .ok (.ifCond .eq 13, 3) := by decide +kernel
theorem dX10_evenings_11 : decode cX10_evenings 11 = .ok (.iload_n 2, 1) := by decide +kernel
theorem dX10_evenings_12 : decode cX10_evenings 12 = .ok (.iconst 0, 1) := by decide +kernel
theorem dX10_evenings_13 : decode cX10_evenings 13 = .ok (.bipush 60, 2) := by decide +kernel
theorem dX10_evenings_15 : decode cX10_evenings 15 = .ok (.invokestatic 62, 3) := by decide +kernel
theorem dX10_evenings_18 : decode cX10_evenings 18 = .ok (.ifCond .ne 10, 3) := by decide +kernel
theorem dX10_evenings_21 : decode cX10_evenings 21 = .ok (.aload_n 0, 1) := by decide +kernel
theorem dX10_evenings_22 : decode cX10_evenings 22 = .ok (.bipush (-2), 2) := by decide +kernel
theorem dX10_evenings_24 : decode cX10_evenings 24 = .ok (.invokevirtual 66, 3) := by decide +kernel
theorem dX10_evenings_27 : decode cX10_evenings 27 = .ok (.ireturn, 1) := by decide +kernel
theorem dX10_evenings_28 : decode cX10_evenings 28 = .ok (.aload_n 0, 1) := by decide +kernel
theorem dX10_evenings_29 : decode cX10_evenings 29 = .ok (.getfield 34, 3) := by decide +kernel
theorem dX10_evenings_32 : decode cX10_evenings 32 = .ok (.aload_n 0, 1) := by decide +kernel
theorem dX10_evenings_33 : decode cX10_evenings 33 = .ok (.getfield 10, 3) := by decide +kernel
theorem dX10_evenings_36 : decode cX10_evenings 36 = .ok (.getfield 70, 3) := by decide +kernel
theorem dX10_evenings_39 : decode cX10_evenings 39 = .ok (.iload_n 1, 1) := by decide +kernel
theorem dX10_evenings_40 : decode cX10_evenings 40 = .ok (.iload_n 2, 1) := by decide +kernel
theorem dX10_evenings_41 : decode cX10_evenings 41 = .ok (.invokevirtual 286, 3) := by decide +kernel
theorem dX10_evenings_44 : decode cX10_evenings 44 = .ok (.ireturn, 1) := by decide +kernel
def fX10_evenings_21 (v0 : Nat) (h : gx_H) : Option (Int32 × gx_H) :=
  gx_bd (fX10_refuse v0 (-2 : Int32) h) fun x11 h10 =>
  some (x11, h10)
def fX10_evenings (v0 : Nat) (v1 : Int32) (v2 : Int32) (h : gx_H) : Option (Int32 × gx_H) :=
  (gx_isO h v0 8).bind fun _ =>
  gx_bd (fX10_within v1 (0 : Int32) (999999 : Int32) h) fun x2 h1 =>
  if x2 = 0 then
    fX10_evenings_21 v0 h1
  else
    gx_bd (fX10_within v2 (0 : Int32) (60 : Int32) h1) fun x4 h3 =>
    if x4 = 0 then
      fX10_evenings_21 v0 h3
    else
      (gx_fR h3 v0 8 4).bind fun a5 =>
      (gx_fR h3 v0 8 0).bind fun a6 =>
      (gx_fR h3 a6 1 0).bind fun a7 =>
      gx_bd (fX5_homesBySeed a5 a7 v1 v2 h3) fun x9 h8 =>
      some (x9, h8)
set_option maxRecDepth 100000 in
set_option maxHeartbeats 4000000 in
theorem gX10_evenings_21 {E : gx_Env} {d : Nat}  : ∀ (v0 : Nat) (h : gx_H), gx_G E RX10 cX10_evenings 3 (some .int) false (d + 6) 0 0 21 [some (.ref v0), none, none] [] h (fun x : Int32 => some (.int x)) (fX10_evenings_21 v0 h) := by
  intro v0 h
  unfold fX10_evenings_21
  refine gx_aload_n 0 dX10_evenings_21 rfl rfl ?_
  refine gx_bipush (-2 : Int32) dX10_evenings_22 (by decide) ?_
  refine gx_callV (ci := 8) (bc := 0) (bs := 0) (mc := 0) (ms := 0) (em' := (fun x : Int32 => some (.int x))) [.int (-2 : Int32)] kc_RX10_66 rfl dX10_evenings_24 rfl rfl (gx_w8 rfl) (fun x q => (gx_isO_of (by unfold fX10_refuse at q; exact q)).2) (fun _ _ q => okX10_refuse (d + 5) q) (fun x11 h10 => ?_)
  exact gx_iret dX10_evenings_27 rfl
set_option maxRecDepth 100000 in
set_option maxHeartbeats 4000000 in
theorem geX10_evenings {E : gx_Env} {d : Nat} (v0 : Nat) (v1 : Int32) (v2 : Int32) (h : gx_H) : gx_G E RX10 cX10_evenings 3 (some .int) false (d + 6) 0 0 0 [some (.ref v0), some (.int v1), some (.int v2)] [] h (fun x : Int32 => some (.int x)) (fX10_evenings v0 v1 v2 h) := by
  unfold fX10_evenings
  refine gx_bind fun _ _ => ?_
  refine gx_iload_n 1 dX10_evenings_0 rfl rfl ?_
  refine gx_iconst (0 : Int32) dX10_evenings_1 (by decide) ?_
  refine gx_ldcw kk_RX10_285 dX10_evenings_2 ?_
  refine gx_callS (bc := 0) (bs := 0) (mc := 0) (ms := 0) (em' := (fun x : Int32 => some (.int x))) [.int v1, .int (0 : Int32), .int (999999 : Int32)] kc_RX10_62 dX10_evenings_5 rfl rfl (gx_w8 rfl) (fun _ _ q => okX10_within (d + 5) q) (fun x2 h1 => ?_)
  refine gx_if_eq 21 dX10_evenings_8 (by decide) (fun _ => ?_) (fun _ => ?_)
  · exact gx_sub (gX10_evenings_21 v0 h1) (And.intro rfl True.intro)
  · refine gx_iload_n 2 dX10_evenings_11 rfl rfl ?_
    refine gx_iconst (0 : Int32) dX10_evenings_12 (by decide) ?_
    refine gx_bipush (60 : Int32) dX10_evenings_13 (by decide) ?_
    refine gx_callS (bc := 0) (bs := 0) (mc := 0) (ms := 0) (em' := (fun x : Int32 => some (.int x))) [.int v2, .int (0 : Int32), .int (60 : Int32)] kc_RX10_62 dX10_evenings_15 rfl rfl (gx_w8 rfl) (fun _ _ q => okX10_within (d + 5) q) (fun x4 h3 => ?_)
    refine gx_if_ne 28 dX10_evenings_18 (by decide) (fun _ => ?_) (fun _ => ?_)
    · refine gx_aload_n 0 dX10_evenings_28 rfl rfl ?_
      refine gx_getR kf_RX10_34 dX10_evenings_29 (fun a5 => ?_)
      refine gx_aload_n 0 dX10_evenings_32 rfl rfl ?_
      refine gx_getR kf_RX10_10 dX10_evenings_33 (fun a6 => ?_)
      refine gx_getR kf_RX10_70 dX10_evenings_36 (fun a7 => ?_)
      refine gx_iload_n 1 dX10_evenings_39 rfl rfl ?_
      refine gx_iload_n 2 dX10_evenings_40 rfl rfl ?_
      refine gx_callV (ci := 4) (bc := 0) (bs := 0) (mc := 0) (ms := 0) (em' := (fun x : Int32 => some (.int x))) [.ref a7, .int v1, .int v2] kc_RX10_286 rfl dX10_evenings_41 rfl rfl (gx_w8 rfl) (fun x q => (gx_isO_of (by unfold fX5_homesBySeed at q; exact q)).2) (fun _ _ q => okX5_homesBySeed d q) (fun x9 h8 => ?_)
      exact gx_iret dX10_evenings_44 rfl
    · exact gx_sub (gX10_evenings_21 v0 h3) (And.intro rfl True.intro)
theorem okX10_evenings {E : gx_Env} (d : Nat) {v0 : Nat} {v1 : Int32} {v2 : Int32} {h : gx_H} {r : Int32} {h1 : gx_H} (q : fX10_evenings v0 v1 v2 h = some (r, h1)) : gx_M E yX10_evenings cX10_evenings 3 (some .int) (d + 6) 0 0 [.ref v0, .int v1, .int v2] h ((fun x : Int32 => some (.int x)) r) h1 := gx_meth (y := yX10_evenings) (cc := cX10_evenings) (nL := 3) (em := (fun x : Int32 => some (.int x))) (ini := false) [.ref v0, .int v1, .int v2] (by decide) (by simp [gx_sl]) (fun q => by cases q) (geX10_evenings v0 v1 v2 h) q
theorem dX10_part_0 : decode cX10_part 0 = .ok (.iload_n 1, 1) := by decide +kernel
theorem dX10_part_1 : decode cX10_part 1 = .ok (.iconst 0, 1) := by decide +kernel
theorem dX10_part_2 : decode cX10_part 2 = .ok (.iconst 1, 1) := by decide +kernel
theorem dX10_part_3 : decode cX10_part 3 = .ok (.invokestatic 62, 3) := by decide +kernel
theorem dX10_part_6 : decode cX10_part 6 = .ok (.ifCond .ne 11, 3) := by decide +kernel
theorem dX10_part_9 : decode cX10_part 9 = .ok (.aload_n 0, 1) := by decide +kernel
theorem dX10_part_10 : decode cX10_part 10 = .ok (.bipush (-2), 2) := by decide +kernel
theorem dX10_part_12 : decode cX10_part 12 = .ok (.invokevirtual 66, 3) := by decide +kernel
theorem dX10_part_15 : decode cX10_part 15 = .ok (.i2l, 1) := by decide +kernel
theorem dX10_part_16 : decode cX10_part 16 = .ok (.lreturn, 1) := by decide +kernel
theorem dX10_part_17 : decode cX10_part 17 = .ok (.iload_n 1, 1) := by decide +kernel
theorem dX10_part_18 : decode cX10_part 18 = .ok (.ifCond .ne 10, 3) := by decide +kernel
theorem dX10_part_21 : decode cX10_part 21 = .ok (.aload_n 0, 1) := by decide +kernel
theorem dX10_part_22 : decode cX10_part 22 = .ok (.getfield 45, 3) := by decide +kernel
theorem dX10_part_25 : decode cX10_part 25 = .ok (.goto 7, 3) := by decide +kernel
theorem dX10_part_28 : decode cX10_part 28 = .ok (.aload_n 0, 1) := by decide +kernel
theorem dX10_part_29 : decode cX10_part 29 = .ok (.getfield 49, 3) := by decide +kernel
theorem dX10_part_32 : decode cX10_part 32 = .ok (.lreturn, 1) := by decide +kernel
def fX10_part_32 (s0 : Int64) (h : gx_H) : Option (Int64 × gx_H) :=
  some (s0, h)
def fX10_part (v0 : Nat) (v1 : Int32) (h : gx_H) : Option (Int64 × gx_H) :=
  (gx_isO h v0 8).bind fun _ =>
  gx_bd (fX10_within v1 (0 : Int32) (1 : Int32) h) fun x2 h1 =>
  if x2 = 0 then
    gx_bd (fX10_refuse v0 (-2 : Int32) h1) fun x6 h5 =>
    some (((x6).toInt64), h5)
  else
    if v1 = 0 then
      (gx_fJ h1 v0 8 6).bind fun y4 =>
      fX10_part_32 y4 h1
    else
      (gx_fJ h1 v0 8 7).bind fun y3 =>
      fX10_part_32 y3 h1
set_option maxRecDepth 100000 in
set_option maxHeartbeats 4000000 in
theorem gX10_part_32 {E : gx_Env} {d : Nat}  : ∀ (s0 : Int64) (h : gx_H), gx_G E RX10 cX10_part 2 (some .long) false (d + 1) 0 0 32 [none, none] [.long s0] h (fun x : Int64 => some (.long x)) (fX10_part_32 s0 h) := by
  intro s0 h
  unfold fX10_part_32
  exact gx_lret dX10_part_32 rfl
set_option maxRecDepth 100000 in
set_option maxHeartbeats 4000000 in
theorem geX10_part {E : gx_Env} {d : Nat} (v0 : Nat) (v1 : Int32) (h : gx_H) : gx_G E RX10 cX10_part 2 (some .long) false (d + 1) 0 0 0 [some (.ref v0), some (.int v1)] [] h (fun x : Int64 => some (.long x)) (fX10_part v0 v1 h) := by
  unfold fX10_part
  refine gx_bind fun _ _ => ?_
  refine gx_iload_n 1 dX10_part_0 rfl rfl ?_
  refine gx_iconst (0 : Int32) dX10_part_1 (by decide) ?_
  refine gx_iconst (1 : Int32) dX10_part_2 (by decide) ?_
  refine gx_callS (bc := 0) (bs := 0) (mc := 0) (ms := 0) (em' := (fun x : Int32 => some (.int x))) [.int v1, .int (0 : Int32), .int (1 : Int32)] kc_RX10_62 dX10_part_3 rfl rfl (gx_w8 rfl) (fun _ _ q => okX10_within d q) (fun x2 h1 => ?_)
  refine gx_if_ne 17 dX10_part_6 (by decide) (fun _ => ?_) (fun _ => ?_)
  · refine gx_iload_n 1 dX10_part_17 rfl rfl ?_
    refine gx_if_ne 28 dX10_part_18 (by decide) (fun _ => ?_) (fun _ => ?_)
    · refine gx_aload_n 0 dX10_part_28 rfl rfl ?_
      refine gx_getJ kf_RX10_49 dX10_part_29 (fun y3 => ?_)
      exact gx_sub (gX10_part_32 y3 h1) True.intro
    · refine gx_aload_n 0 dX10_part_21 rfl rfl ?_
      refine gx_getJ kf_RX10_45 dX10_part_22 (fun y4 => ?_)
      refine gx_goto 32 dX10_part_25 (by decide) ?_
      exact gx_sub (gX10_part_32 y4 h1) True.intro
  · refine gx_aload_n 0 dX10_part_9 rfl rfl ?_
    refine gx_bipush (-2 : Int32) dX10_part_10 (by decide) ?_
    refine gx_callV (ci := 8) (bc := 0) (bs := 0) (mc := 0) (ms := 0) (em' := (fun x : Int32 => some (.int x))) [.int (-2 : Int32)] kc_RX10_66 rfl dX10_part_12 rfl rfl (gx_w8 rfl) (fun x q => (gx_isO_of (by unfold fX10_refuse at q; exact q)).2) (fun _ _ q => okX10_refuse d q) (fun x6 h5 => ?_)
    refine gx_i2l dX10_part_15 ?_
    exact gx_lret dX10_part_16 rfl
theorem okX10_part {E : gx_Env} (d : Nat) {v0 : Nat} {v1 : Int32} {h : gx_H} {r : Int64} {h1 : gx_H} (q : fX10_part v0 v1 h = some (r, h1)) : gx_M E yX10_part cX10_part 2 (some .long) (d + 1) 0 0 [.ref v0, .int v1] h ((fun x : Int64 => some (.long x)) r) h1 := gx_meth (y := yX10_part) (cc := cX10_part) (nL := 2) (em := (fun x : Int64 => some (.long x))) (ini := false) [.ref v0, .int v1] (by decide) (by simp [gx_sl]) (fun q => by cases q) (geX10_part v0 v1 h) q
theorem dX10_image_0 : decode cX10_image 0 = .ok (.iload_n 1, 1) := by decide +kernel
theorem dX10_image_1 : decode cX10_image 1 = .ok (.iconst 0, 1) := by decide +kernel
theorem dX10_image_2 : decode cX10_image 2 = .ok (.iconst 1, 1) := by decide +kernel
theorem dX10_image_3 : decode cX10_image 3 = .ok (.invokestatic 62, 3) := by decide +kernel
theorem dX10_image_6 : decode cX10_image 6 = .ok (.ifCond .ne 10, 3) := by decide +kernel
theorem dX10_image_9 : decode cX10_image 9 = .ok (.aload_n 0, 1) := by decide +kernel
theorem dX10_image_10 : decode cX10_image 10 = .ok (.bipush (-2), 2) := by decide +kernel
theorem dX10_image_12 : decode cX10_image 12 = .ok (.invokevirtual 66, 3) := by decide +kernel
theorem dX10_image_15 : decode cX10_image 15 = .ok (.ireturn, 1) := by decide +kernel
theorem dX10_image_16 : decode cX10_image 16 = .ok (.aload_n 0, 1) := by decide +kernel
theorem dX10_image_17 : decode cX10_image 17 = .ok (.getfield 16, 3) := by decide +kernel
theorem dX10_image_20 : decode cX10_image 20 = .ok (.iload_n 1, 1) := by decide +kernel
theorem dX10_image_21 : decode cX10_image 21 = .ok (.aaload, 1) := by decide +kernel
theorem dX10_image_22 : decode cX10_image 22 = .ok (.aload_n 0, 1) := by decide +kernel
theorem dX10_image_23 : decode cX10_image 23 = .ok (.getfield 10, 3) := by decide +kernel
theorem dX10_image_26 : decode cX10_image 26 = .ok (.invokevirtual 290, 3) := by decide +kernel
theorem dX10_image_29 : decode cX10_image 29 = .ok (.aload_n 0, 1) := by decide +kernel
theorem dX10_image_30 : decode cX10_image 30 = .ok (.getfield 20, 3) := by decide +kernel
theorem dX10_image_33 : decode cX10_image 33 = .ok (.iload_n 1, 1) := by decide +kernel
theorem dX10_image_34 : decode cX10_image 34 = .ok (.iconst 1, 1) := by decide +kernel
theorem dX10_image_35 : decode cX10_image 35 = .ok (.bastore, 1) := by decide +kernel
theorem dX10_image_36 : decode cX10_image 36 = .ok (.iconst 1, 1) := by decide +kernel
theorem dX10_image_37 : decode cX10_image 37 = .ok (.ireturn, 1) := by decide +kernel
def fX10_image (v0 : Nat) (v1 : Int32) (h : gx_H) : Option (Int32 × gx_H) :=
  (gx_isO h v0 8).bind fun _ =>
  gx_bd (fX10_within v1 (0 : Int32) (1 : Int32) h) fun x2 h1 =>
  if x2 = 0 then
    gx_bd (fX10_refuse v0 (-2 : Int32) h1) fun x11 h10 =>
    some (x11, h10)
  else
    (gx_fR h1 v0 8 1).bind fun a3 =>
    (gx_aR 4 h1 a3 v1).bind fun a4 =>
    (gx_fR h1 v0 8 0).bind fun a5 =>
    gx_bd (fX1_copy a4 a5 h1) fun u7 h6 =>
    (gx_fR h6 v0 8 2).bind fun a8 =>
    (gx_sI 2 h6 a8 v1 (vp_nar .boolean (1 : Int32))).bind fun h9 =>
    some ((1 : Int32), h9)
set_option maxRecDepth 100000 in
set_option maxHeartbeats 4000000 in
theorem geX10_image {E : gx_Env} {d : Nat} (v0 : Nat) (v1 : Int32) (h : gx_H) : gx_G E RX10 cX10_image 2 (some .int) false (d + 3) 0 0 0 [some (.ref v0), some (.int v1)] [] h (fun x : Int32 => some (.int x)) (fX10_image v0 v1 h) := by
  unfold fX10_image
  refine gx_bind fun _ _ => ?_
  refine gx_iload_n 1 dX10_image_0 rfl rfl ?_
  refine gx_iconst (0 : Int32) dX10_image_1 (by decide) ?_
  refine gx_iconst (1 : Int32) dX10_image_2 (by decide) ?_
  refine gx_callS (bc := 0) (bs := 0) (mc := 0) (ms := 0) (em' := (fun x : Int32 => some (.int x))) [.int v1, .int (0 : Int32), .int (1 : Int32)] kc_RX10_62 dX10_image_3 rfl rfl (gx_w8 rfl) (fun _ _ q => okX10_within (d + 2) q) (fun x2 h1 => ?_)
  refine gx_if_ne 16 dX10_image_6 (by decide) (fun _ => ?_) (fun _ => ?_)
  · refine gx_aload_n 0 dX10_image_16 rfl rfl ?_
    refine gx_getR kf_RX10_16 dX10_image_17 (fun a3 => ?_)
    refine gx_iload_n 1 dX10_image_20 rfl rfl ?_
    refine gx_aald4 dX10_image_21 (fun a4 => ?_)
    refine gx_aload_n 0 dX10_image_22 rfl rfl ?_
    refine gx_getR kf_RX10_10 dX10_image_23 (fun a5 => ?_)
    refine gx_callV (ci := 1) (bc := 0) (bs := 0) (mc := 0) (ms := 0) (em' := (fun _ : Unit => none)) [.ref a5] kc_RX10_290 rfl dX10_image_26 rfl rfl (gx_w8 rfl) (fun x q => (gx_isO_of (by unfold fX1_copy at q; exact q)).2) (fun _ _ q => okX1_copy d q) (fun u7 h6 => ?_)
    refine gx_aload_n 0 dX10_image_29 rfl rfl ?_
    refine gx_getR kf_RX10_20 dX10_image_30 (fun a8 => ?_)
    refine gx_iload_n 1 dX10_image_33 rfl rfl ?_
    refine gx_iconst (1 : Int32) dX10_image_34 (by decide) ?_
    refine gx_zast dX10_image_35 (fun h9 => ?_)
    refine gx_iconst (1 : Int32) dX10_image_36 (by decide) ?_
    exact gx_iret dX10_image_37 rfl
  · refine gx_aload_n 0 dX10_image_9 rfl rfl ?_
    refine gx_bipush (-2 : Int32) dX10_image_10 (by decide) ?_
    refine gx_callV (ci := 8) (bc := 0) (bs := 0) (mc := 0) (ms := 0) (em' := (fun x : Int32 => some (.int x))) [.int (-2 : Int32)] kc_RX10_66 rfl dX10_image_12 rfl rfl (gx_w8 rfl) (fun x q => (gx_isO_of (by unfold fX10_refuse at q; exact q)).2) (fun _ _ q => okX10_refuse (d + 2) q) (fun x11 h10 => ?_)
    exact gx_iret dX10_image_15 rfl
theorem okX10_image {E : gx_Env} (d : Nat) {v0 : Nat} {v1 : Int32} {h : gx_H} {r : Int32} {h1 : gx_H} (q : fX10_image v0 v1 h = some (r, h1)) : gx_M E yX10_image cX10_image 2 (some .int) (d + 3) 0 0 [.ref v0, .int v1] h ((fun x : Int32 => some (.int x)) r) h1 := gx_meth (y := yX10_image) (cc := cX10_image) (nL := 2) (em := (fun x : Int32 => some (.int x))) (ini := false) [.ref v0, .int v1] (by decide) (by simp [gx_sl]) (fun q => by cases q) (geX10_image v0 v1 h) q
theorem dX10_from_0 : decode cX10_from 0 = .ok (.iload_n 1, 1) := by decide +kernel
theorem dX10_from_1 : decode cX10_from 1 = .ok (.iconst 0, 1) := by decide +kernel
theorem dX10_from_2 : decode cX10_from 2 = .ok (.iconst 1, 1) := by decide +kernel
theorem dX10_from_3 : decode cX10_from 3 = .ok (.invokestatic 62, 3) := by decide +kernel
theorem dX10_from_6 : decode cX10_from 6 = .ok (.ifCond .ne 10, 3) := by decide +kernel
theorem dX10_from_9 : decode cX10_from 9 = .ok (.aload_n 0, 1) := by decide +kernel
theorem dX10_from_10 : decode cX10_from 10 = .ok (.bipush (-2), 2) := by decide +kernel
theorem dX10_from_12 : decode cX10_from 12 = .ok (.invokevirtual 66, 3) := by decide +kernel
theorem dX10_from_15 : decode cX10_from 15 = .ok (.ireturn, 1) := by decide +kernel
theorem dX10_from_16 : decode cX10_from 16 = .ok (.aload_n 0, 1) := by decide +kernel
theorem dX10_from_17 : decode cX10_from 17 = .ok (.getfield 20, 3) := by decide +kernel
theorem dX10_from_20 : decode cX10_from 20 = .ok (.iload_n 1, 1) := by decide +kernel
theorem dX10_from_21 : decode cX10_from 21 = .ok (.baload, 1) := by decide +kernel
theorem dX10_from_22 : decode cX10_from 22 = .ok (.ifCond .ne 10, 3) := by decide +kernel
theorem dX10_from_25 : decode cX10_from 25 = .ok (.aload_n 0, 1) := by decide +kernel
theorem dX10_from_26 : decode cX10_from 26 = .ok (.bipush (-3), 2) := by decide +kernel
theorem dX10_from_28 : decode cX10_from 28 = .ok (.invokevirtual 66, 3) := by decide +kernel
theorem dX10_from_31 : decode cX10_from 31 = .ok (.ireturn, 1) := by decide +kernel
theorem dX10_from_32 : decode cX10_from 32 = .ok (.aload_n 0, 1) := by decide +kernel
theorem dX10_from_33 : decode cX10_from 33 = .ok (.getfield 10, 3) := by decide +kernel
theorem dX10_from_36 : decode cX10_from 36 = .ok (.aload_n 0, 1) := by decide +kernel
theorem dX10_from_37 : decode cX10_from 37 = .ok (.getfield 16, 3) := by decide +kernel
theorem dX10_from_40 : decode cX10_from 40 = .ok (.iload_n 1, 1) := by decide +kernel
theorem dX10_from_41 : decode cX10_from 41 = .ok (.aaload, 1) := by decide +kernel
theorem dX10_from_42 : decode cX10_from 42 = .ok (.invokevirtual 290, 3) := by decide +kernel
theorem dX10_from_45 : decode cX10_from 45 = .ok (.iconst 1, 1) := by decide +kernel
theorem dX10_from_46 : decode cX10_from 46 = .ok (.ireturn, 1) := by decide +kernel
def fX10_from (v0 : Nat) (v1 : Int32) (h : gx_H) : Option (Int32 × gx_H) :=
  (gx_isO h v0 8).bind fun _ =>
  gx_bd (fX10_within v1 (0 : Int32) (1 : Int32) h) fun x2 h1 =>
  if x2 = 0 then
    gx_bd (fX10_refuse v0 (-2 : Int32) h1) fun x13 h12 =>
    some (x13, h12)
  else
    (gx_fR h1 v0 8 2).bind fun a3 =>
    (gx_aI 2 h1 a3 v1).bind fun x4 =>
    if x4 = 0 then
      gx_bd (fX10_refuse v0 (-3 : Int32) h1) fun x11 h10 =>
      some (x11, h10)
    else
      (gx_fR h1 v0 8 0).bind fun a5 =>
      (gx_fR h1 v0 8 1).bind fun a6 =>
      (gx_aR 4 h1 a6 v1).bind fun a7 =>
      gx_bd (fX1_copy a5 a7 h1) fun u9 h8 =>
      some ((1 : Int32), h8)
set_option maxRecDepth 100000 in
set_option maxHeartbeats 4000000 in
theorem geX10_from {E : gx_Env} {d : Nat} (v0 : Nat) (v1 : Int32) (h : gx_H) : gx_G E RX10 cX10_from 2 (some .int) false (d + 3) 0 0 0 [some (.ref v0), some (.int v1)] [] h (fun x : Int32 => some (.int x)) (fX10_from v0 v1 h) := by
  unfold fX10_from
  refine gx_bind fun _ _ => ?_
  refine gx_iload_n 1 dX10_from_0 rfl rfl ?_
  refine gx_iconst (0 : Int32) dX10_from_1 (by decide) ?_
  refine gx_iconst (1 : Int32) dX10_from_2 (by decide) ?_
  refine gx_callS (bc := 0) (bs := 0) (mc := 0) (ms := 0) (em' := (fun x : Int32 => some (.int x))) [.int v1, .int (0 : Int32), .int (1 : Int32)] kc_RX10_62 dX10_from_3 rfl rfl (gx_w8 rfl) (fun _ _ q => okX10_within (d + 2) q) (fun x2 h1 => ?_)
  refine gx_if_ne 16 dX10_from_6 (by decide) (fun _ => ?_) (fun _ => ?_)
  · refine gx_aload_n 0 dX10_from_16 rfl rfl ?_
    refine gx_getR kf_RX10_20 dX10_from_17 (fun a3 => ?_)
    refine gx_iload_n 1 dX10_from_20 rfl rfl ?_
    refine gx_zald dX10_from_21 (fun x4 => ?_)
    refine gx_if_ne 32 dX10_from_22 (by decide) (fun _ => ?_) (fun _ => ?_)
    · refine gx_aload_n 0 dX10_from_32 rfl rfl ?_
      refine gx_getR kf_RX10_10 dX10_from_33 (fun a5 => ?_)
      refine gx_aload_n 0 dX10_from_36 rfl rfl ?_
      refine gx_getR kf_RX10_16 dX10_from_37 (fun a6 => ?_)
      refine gx_iload_n 1 dX10_from_40 rfl rfl ?_
      refine gx_aald4 dX10_from_41 (fun a7 => ?_)
      refine gx_callV (ci := 1) (bc := 0) (bs := 0) (mc := 0) (ms := 0) (em' := (fun _ : Unit => none)) [.ref a7] kc_RX10_290 rfl dX10_from_42 rfl rfl (gx_w8 rfl) (fun x q => (gx_isO_of (by unfold fX1_copy at q; exact q)).2) (fun _ _ q => okX1_copy d q) (fun u9 h8 => ?_)
      refine gx_iconst (1 : Int32) dX10_from_45 (by decide) ?_
      exact gx_iret dX10_from_46 rfl
    · refine gx_aload_n 0 dX10_from_25 rfl rfl ?_
      refine gx_bipush (-3 : Int32) dX10_from_26 (by decide) ?_
      refine gx_callV (ci := 8) (bc := 0) (bs := 0) (mc := 0) (ms := 0) (em' := (fun x : Int32 => some (.int x))) [.int (-3 : Int32)] kc_RX10_66 rfl dX10_from_28 rfl rfl (gx_w8 rfl) (fun x q => (gx_isO_of (by unfold fX10_refuse at q; exact q)).2) (fun _ _ q => okX10_refuse (d + 2) q) (fun x11 h10 => ?_)
      exact gx_iret dX10_from_31 rfl
  · refine gx_aload_n 0 dX10_from_9 rfl rfl ?_
    refine gx_bipush (-2 : Int32) dX10_from_10 (by decide) ?_
    refine gx_callV (ci := 8) (bc := 0) (bs := 0) (mc := 0) (ms := 0) (em' := (fun x : Int32 => some (.int x))) [.int (-2 : Int32)] kc_RX10_66 rfl dX10_from_12 rfl rfl (gx_w8 rfl) (fun x q => (gx_isO_of (by unfold fX10_refuse at q; exact q)).2) (fun _ _ q => okX10_refuse (d + 2) q) (fun x13 h12 => ?_)
    exact gx_iret dX10_from_15 rfl
theorem okX10_from {E : gx_Env} (d : Nat) {v0 : Nat} {v1 : Int32} {h : gx_H} {r : Int32} {h1 : gx_H} (q : fX10_from v0 v1 h = some (r, h1)) : gx_M E yX10_from cX10_from 2 (some .int) (d + 3) 0 0 [.ref v0, .int v1] h ((fun x : Int32 => some (.int x)) r) h1 := gx_meth (y := yX10_from) (cc := cX10_from) (nL := 2) (em := (fun x : Int32 => some (.int x))) (ini := false) [.ref v0, .int v1] (by decide) (by simp [gx_sl]) (fun q => by cases q) (geX10_from v0 v1 h) q
theorem dX10_status_0 : decode cX10_status 0 = .ok (.iload_n 1, 1) := by decide +kernel
theorem dX10_status_1 : decode cX10_status 1 = .ok (.tableswitch 42 0 2 #[27, 32, 37], 27) := by decide +kernel
theorem dX10_status_28 : decode cX10_status 28 = .ok (.aload_n 0, 1) := by decide +kernel
theorem dX10_status_29 : decode cX10_status 29 = .ok (.getfield 52, 3) := by decide +kernel
theorem dX10_status_32 : decode cX10_status 32 = .ok (.ireturn, 1) := by decide +kernel
theorem dX10_status_33 : decode cX10_status 33 = .ok (.aload_n 0, 1) := by decide +kernel
theorem dX10_status_34 : decode cX10_status 34 = .ok (.getfield 56, 3) := by decide +kernel
theorem dX10_status_37 : decode cX10_status 37 = .ok (.ireturn, 1) := by decide +kernel
theorem dX10_status_38 : decode cX10_status 38 = .ok (.aload_n 0, 1) := by decide +kernel
theorem dX10_status_39 : decode cX10_status 39 = .ok (.getfield 59, 3) := by decide +kernel
theorem dX10_status_42 : decode cX10_status 42 = .ok (.ireturn, 1) := by decide +kernel
theorem dX10_status_43 : decode cX10_status 43 = .ok (.aload_n 0, 1) := by decide +kernel
theorem dX10_status_44 : decode cX10_status 44 = .ok (.bipush (-2), 2) := by decide +kernel
theorem dX10_status_46 : decode cX10_status 46 = .ok (.invokevirtual 66, 3) := by decide +kernel
theorem dX10_status_49 : decode cX10_status 49 = .ok (.pop, 1) := by decide +kernel
theorem dX10_status_50 : decode cX10_status 50 = .ok (.iconst (-1), 1) := by decide +kernel
theorem dX10_status_51 : decode cX10_status 51 = .ok (.ireturn, 1) := by decide +kernel
def fX10_status (v0 : Nat) (v1 : Int32) (h : gx_H) : Option (Int32 × gx_H) :=
  (gx_isO h v0 8).bind fun _ =>
  if v1 = (0 : Int32) then
    (gx_fI h v0 8 8).bind fun x1 =>
    some (x1, h)
  else
  if v1 = (1 : Int32) then
    (gx_fI h v0 8 9).bind fun x2 =>
    some (x2, h)
  else
  if v1 = (2 : Int32) then
    (gx_fI h v0 8 10).bind fun x3 =>
    some (x3, h)
  else
  gx_bd (fX10_refuse v0 (-2 : Int32) h) fun x5 h4 =>
  some ((-1 : Int32), h4)
set_option maxRecDepth 100000 in
set_option maxHeartbeats 4000000 in
theorem geX10_status {E : gx_Env} {d : Nat} (v0 : Nat) (v1 : Int32) (h : gx_H) : gx_G E RX10 cX10_status 2 (some .int) false (d + 1) 0 0 0 [some (.ref v0), some (.int v1)] [] h (fun x : Int32 => some (.int x)) (fX10_status v0 v1 h) := by
  unfold fX10_status
  refine gx_bind fun _ _ => ?_
  refine gx_iload_n 1 dX10_status_0 rfl rfl ?_
  refine gx_ite (fun hx => ?_) (fun hx0 => ?_)
  · refine gx_tabIn (off := 27) 28 dX10_status_1 (by rw [hx]; decide) (by rw [hx]; decide) (by rw [hx]; decide) (by decide) ?_
    refine gx_aload_n 0 dX10_status_28 rfl rfl ?_
    refine gx_getI kf_RX10_52 dX10_status_29 (fun x1 => ?_)
    exact gx_iret dX10_status_32 rfl
  refine gx_ite (fun hx => ?_) (fun hx1 => ?_)
  · refine gx_tabIn (off := 32) 33 dX10_status_1 (by rw [hx]; decide) (by rw [hx]; decide) (by rw [hx]; decide) (by decide) ?_
    refine gx_aload_n 0 dX10_status_33 rfl rfl ?_
    refine gx_getI kf_RX10_56 dX10_status_34 (fun x2 => ?_)
    exact gx_iret dX10_status_37 rfl
  refine gx_ite (fun hx => ?_) (fun hx2 => ?_)
  · refine gx_tabIn (off := 37) 38 dX10_status_1 (by rw [hx]; decide) (by rw [hx]; decide) (by rw [hx]; decide) (by decide) ?_
    refine gx_aload_n 0 dX10_status_38 rfl rfl ?_
    refine gx_getI kf_RX10_59 dX10_status_39 (fun x3 => ?_)
    exact gx_iret dX10_status_42 rfl
  refine gx_tabOut 43 dX10_status_1 (by have q0 := lv_neT hx0 (a := 0) (by decide); have q1 := lv_neT hx1 (a := 1) (by decide); have q2 := lv_neT hx2 (a := 2) (by decide); omega) (by decide) ?_
  refine gx_aload_n 0 dX10_status_43 rfl rfl ?_
  refine gx_bipush (-2 : Int32) dX10_status_44 (by decide) ?_
  refine gx_callV (ci := 8) (bc := 0) (bs := 0) (mc := 0) (ms := 0) (em' := (fun x : Int32 => some (.int x))) [.int (-2 : Int32)] kc_RX10_66 rfl dX10_status_46 rfl rfl (gx_w8 rfl) (fun x q => (gx_isO_of (by unfold fX10_refuse at q; exact q)).2) (fun _ _ q => okX10_refuse d q) (fun x5 h4 => ?_)
  refine gx_pop dX10_status_49 rfl ?_
  refine gx_iconst (-1 : Int32) dX10_status_50 (by decide) ?_
  exact gx_iret dX10_status_51 rfl
theorem okX10_status {E : gx_Env} (d : Nat) {v0 : Nat} {v1 : Int32} {h : gx_H} {r : Int32} {h1 : gx_H} (q : fX10_status v0 v1 h = some (r, h1)) : gx_M E yX10_status cX10_status 2 (some .int) (d + 1) 0 0 [.ref v0, .int v1] h ((fun x : Int32 => some (.int x)) r) h1 := gx_meth (y := yX10_status) (cc := cX10_status) (nL := 2) (em := (fun x : Int32 => some (.int x))) (ini := false) [.ref v0, .int v1] (by decide) (by simp [gx_sl]) (fun q => by cases q) (geX10_status v0 v1 h) q
theorem dX10_amount_0 : decode cX10_amount 0 = .ok (.aload_n 0, 1) := by decide +kernel
theorem dX10_amount_1 : decode cX10_amount 1 = .ok (.getfield 10, 3) := by decide +kernel
theorem dX10_amount_4 : decode cX10_amount 4 = .ok (.getfield 70, 3) := by decide +kernel
theorem dX10_amount_7 : decode cX10_amount 7 = .ok (.astore_n 2, 1) := by decide +kernel
theorem dX10_amount_8 : decode cX10_amount 8 = .ok (.iload_n 1, 1) := by decide +kernel
theorem dX10_amount_9 : decode cX10_amount 9 = .ok (.tableswitch 123 0 9 #[55, 60, 65, 70, 75, 80, 85, 90, 101, 112], 55) := by decide +kernel
theorem dX10_amount_64 : decode cX10_amount 64 = .ok (.aload_n 2, 1) := by decide +kernel
theorem dX10_amount_65 : decode cX10_amount 65 = .ok (.getfield 98, 3) := by decide +kernel
theorem dX10_amount_68 : decode cX10_amount 68 = .ok (.ireturn, 1) := by decide +kernel
theorem dX10_amount_69 : decode cX10_amount 69 = .ok (.aload_n 2, 1) := by decide +kernel
theorem dX10_amount_70 : decode cX10_amount 70 = .ok (.getfield 86, 3) := by decide +kernel
theorem dX10_amount_73 : decode cX10_amount 73 = .ok (.ireturn, 1) := by decide +kernel
theorem dX10_amount_74 : decode cX10_amount 74 = .ok (.aload_n 2, 1) := by decide +kernel
theorem dX10_amount_75 : decode cX10_amount 75 = .ok (.getfield 104, 3) := by decide +kernel
theorem dX10_amount_78 : decode cX10_amount 78 = .ok (.ireturn, 1) := by decide +kernel
theorem dX10_amount_79 : decode cX10_amount 79 = .ok (.aload_n 2, 1) := by decide +kernel
theorem dX10_amount_80 : decode cX10_amount 80 = .ok (.getfield 74, 3) := by decide +kernel
theorem dX10_amount_83 : decode cX10_amount 83 = .ok (.ireturn, 1) := by decide +kernel
theorem dX10_amount_84 : decode cX10_amount 84 = .ok (.aload_n 2, 1) := by decide +kernel
theorem dX10_amount_85 : decode cX10_amount 85 = .ok (.invokevirtual 163, 3) := by decide +kernel
theorem dX10_amount_88 : decode cX10_amount 88 = .ok (.ireturn, 1) := by decide +kernel
theorem dX10_amount_89 : decode cX10_amount 89 = .ok (.aload_n 2, 1) := by decide +kernel
theorem dX10_amount_90 : decode cX10_amount 90 = .ok (.invokevirtual 304, 3) := by decide +kernel
theorem dX10_amount_93 : decode cX10_amount 93 = .ok (.ireturn, 1) := by decide +kernel
theorem dX10_amount_94 : decode cX10_amount 94 = .ok (.aload_n 2, 1) := by decide +kernel
theorem dX10_amount_95 : decode cX10_amount 95 = .ok (.invokevirtual 307, 3) := by decide +kernel
theorem dX10_amount_98 : decode cX10_amount 98 = .ok (.ireturn, 1) := by decide +kernel
theorem dX10_amount_99 : decode cX10_amount 99 = .ok (.aload_n 0, 1) := by decide +kernel
theorem dX10_amount_100 : decode cX10_amount 100 = .ok (.getfield 10, 3) := by decide +kernel
theorem dX10_amount_103 : decode cX10_amount 103 = .ok (.getfield 248, 3) := by decide +kernel
theorem dX10_amount_106 : decode cX10_amount 106 = .ok (.getfield 252, 3) := by decide +kernel
theorem dX10_amount_109 : decode cX10_amount 109 = .ok (.ireturn, 1) := by decide +kernel
theorem dX10_amount_110 : decode cX10_amount 110 = .ok (.aload_n 0, 1) := by decide +kernel
theorem dX10_amount_111 : decode cX10_amount 111 = .ok (.getfield 10, 3) := by decide +kernel
theorem dX10_amount_114 : decode cX10_amount 114 = .ok (.getfield 259, 3) := by decide +kernel
theorem dX10_amount_117 : decode cX10_amount 117 = .ok (.getfield 252, 3) := by decide +kernel
theorem dX10_amount_120 : decode cX10_amount 120 = .ok (.ireturn, 1) := by decide +kernel
theorem dX10_amount_121 : decode cX10_amount 121 = .ok (.aload_n 0, 1) := by decide +kernel
theorem dX10_amount_122 : decode cX10_amount 122 = .ok (.getfield 10, 3) := by decide +kernel
theorem dX10_amount_125 : decode cX10_amount 125 = .ok (.getfield 89, 3) := by decide +kernel
theorem dX10_amount_128 : decode cX10_amount 128 = .ok (.getfield 157, 3) := by decide +kernel
theorem dX10_amount_131 : decode cX10_amount 131 = .ok (.ireturn, 1) := by decide +kernel
theorem dX10_amount_132 : decode cX10_amount 132 = .ok (.aload_n 0, 1) := by decide +kernel
theorem dX10_amount_133 : decode cX10_amount 133 = .ok (.getfield 27, 3) := by decide +kernel
theorem dX10_amount_136 : decode cX10_amount 136 = .ok (.getfield 114, 3) := by decide +kernel
theorem dX10_amount_139 : decode cX10_amount 139 = .ok (.ireturn, 1) := by decide +kernel
def fX10_amount (v0 : Nat) (v1 : Int32) (h : gx_H) : Option (Int32 × gx_H) :=
  (gx_isO h v0 8).bind fun _ =>
  (gx_fR h v0 8 0).bind fun a1 =>
  (gx_fR h a1 1 0).bind fun a2 =>
  if v1 = (0 : Int32) then
    (gx_fI h a2 0 0).bind fun x3 =>
    some (x3, h)
  else
  if v1 = (1 : Int32) then
    (gx_fI h a2 0 1).bind fun x4 =>
    some (x4, h)
  else
  if v1 = (2 : Int32) then
    (gx_fI h a2 0 2).bind fun x5 =>
    some (x5, h)
  else
  if v1 = (3 : Int32) then
    (gx_fI h a2 0 3).bind fun x6 =>
    some (x6, h)
  else
  if v1 = (4 : Int32) then
    gx_bd (fX0_homes a2 h) fun x8 h7 =>
    some (x8, h7)
  else
  if v1 = (5 : Int32) then
    gx_bd (fX0_thrownByAll a2 h) fun x10 h9 =>
    some (x10, h9)
  else
  if v1 = (6 : Int32) then
    gx_bd (fX0_usedOfAll a2 h) fun x12 h11 =>
    some (x12, h11)
  else
  if v1 = (7 : Int32) then
    (gx_fR h v0 8 0).bind fun a13 =>
    (gx_fR h a13 1 2).bind fun a14 =>
    (gx_fI h a14 5 0).bind fun x15 =>
    some (x15, h)
  else
  if v1 = (8 : Int32) then
    (gx_fR h v0 8 0).bind fun a16 =>
    (gx_fR h a16 1 3).bind fun a17 =>
    (gx_fI h a17 5 0).bind fun x18 =>
    some (x18, h)
  else
  if v1 = (9 : Int32) then
    (gx_fR h v0 8 0).bind fun a19 =>
    (gx_fR h a19 1 1).bind fun a20 =>
    (gx_fI h a20 3 0).bind fun x21 =>
    some (x21, h)
  else
  (gx_fR h v0 8 3).bind fun a22 =>
  (gx_fI h a22 7 0).bind fun x23 =>
  some (x23, h)
set_option maxRecDepth 100000 in
set_option maxHeartbeats 4000000 in
theorem geX10_amount {E : gx_Env} {d : Nat} (v0 : Nat) (v1 : Int32) (h : gx_H) : gx_G E RX10 cX10_amount 3 (some .int) false (d + 2) 0 0 0 [some (.ref v0), some (.int v1), none] [] h (fun x : Int32 => some (.int x)) (fX10_amount v0 v1 h) := by
  unfold fX10_amount
  refine gx_bind fun _ _ => ?_
  refine gx_aload_n 0 dX10_amount_0 rfl rfl ?_
  refine gx_getR kf_RX10_10 dX10_amount_1 (fun a1 => ?_)
  refine gx_getR kf_RX10_70 dX10_amount_4 (fun a2 => ?_)
  refine gx_astore_n 2 [some (.ref v0), some (.int v1), some (.ref a2)] dX10_amount_7 rfl (by decide) rfl ?_
  refine gx_iload_n 1 dX10_amount_8 rfl rfl ?_
  refine gx_ite (fun hx => ?_) (fun hx0 => ?_)
  · refine gx_tabIn (off := 55) 64 dX10_amount_9 (by rw [hx]; decide) (by rw [hx]; decide) (by rw [hx]; decide) (by decide) ?_
    refine gx_aload_n 2 dX10_amount_64 rfl rfl ?_
    refine gx_getI kf_RX10_98 dX10_amount_65 (fun x3 => ?_)
    exact gx_iret dX10_amount_68 rfl
  refine gx_ite (fun hx => ?_) (fun hx1 => ?_)
  · refine gx_tabIn (off := 60) 69 dX10_amount_9 (by rw [hx]; decide) (by rw [hx]; decide) (by rw [hx]; decide) (by decide) ?_
    refine gx_aload_n 2 dX10_amount_69 rfl rfl ?_
    refine gx_getI kf_RX10_86 dX10_amount_70 (fun x4 => ?_)
    exact gx_iret dX10_amount_73 rfl
  refine gx_ite (fun hx => ?_) (fun hx2 => ?_)
  · refine gx_tabIn (off := 65) 74 dX10_amount_9 (by rw [hx]; decide) (by rw [hx]; decide) (by rw [hx]; decide) (by decide) ?_
    refine gx_aload_n 2 dX10_amount_74 rfl rfl ?_
    refine gx_getI kf_RX10_104 dX10_amount_75 (fun x5 => ?_)
    exact gx_iret dX10_amount_78 rfl
  refine gx_ite (fun hx => ?_) (fun hx3 => ?_)
  · refine gx_tabIn (off := 70) 79 dX10_amount_9 (by rw [hx]; decide) (by rw [hx]; decide) (by rw [hx]; decide) (by decide) ?_
    refine gx_aload_n 2 dX10_amount_79 rfl rfl ?_
    refine gx_getI kf_RX10_74 dX10_amount_80 (fun x6 => ?_)
    exact gx_iret dX10_amount_83 rfl
  refine gx_ite (fun hx => ?_) (fun hx4 => ?_)
  · refine gx_tabIn (off := 75) 84 dX10_amount_9 (by rw [hx]; decide) (by rw [hx]; decide) (by rw [hx]; decide) (by decide) ?_
    refine gx_aload_n 2 dX10_amount_84 rfl rfl ?_
    refine gx_callV (ci := 0) (bc := 0) (bs := 0) (mc := 0) (ms := 0) (em' := (fun x : Int32 => some (.int x))) [] kc_RX10_163 rfl dX10_amount_85 rfl rfl (gx_w8 rfl) (fun x q => (gx_isO_of (by unfold fX0_homes at q; exact q)).2) (fun _ _ q => okX0_homes d q) (fun x8 h7 => ?_)
    exact gx_iret dX10_amount_88 rfl
  refine gx_ite (fun hx => ?_) (fun hx5 => ?_)
  · refine gx_tabIn (off := 80) 89 dX10_amount_9 (by rw [hx]; decide) (by rw [hx]; decide) (by rw [hx]; decide) (by decide) ?_
    refine gx_aload_n 2 dX10_amount_89 rfl rfl ?_
    refine gx_callV (ci := 0) (bc := 0) (bs := 0) (mc := 0) (ms := 0) (em' := (fun x : Int32 => some (.int x))) [] kc_RX10_304 rfl dX10_amount_90 rfl rfl (gx_w8 rfl) (fun x q => (gx_isO_of (by unfold fX0_thrownByAll at q; exact q)).2) (fun _ _ q => okX0_thrownByAll (d + 1) q) (fun x10 h9 => ?_)
    exact gx_iret dX10_amount_93 rfl
  refine gx_ite (fun hx => ?_) (fun hx6 => ?_)
  · refine gx_tabIn (off := 85) 94 dX10_amount_9 (by rw [hx]; decide) (by rw [hx]; decide) (by rw [hx]; decide) (by decide) ?_
    refine gx_aload_n 2 dX10_amount_94 rfl rfl ?_
    refine gx_callV (ci := 0) (bc := 0) (bs := 0) (mc := 0) (ms := 0) (em' := (fun x : Int32 => some (.int x))) [] kc_RX10_307 rfl dX10_amount_95 rfl rfl (gx_w8 rfl) (fun x q => (gx_isO_of (by unfold fX0_usedOfAll at q; exact q)).2) (fun _ _ q => okX0_usedOfAll (d + 1) q) (fun x12 h11 => ?_)
    exact gx_iret dX10_amount_98 rfl
  refine gx_ite (fun hx => ?_) (fun hx7 => ?_)
  · refine gx_tabIn (off := 90) 99 dX10_amount_9 (by rw [hx]; decide) (by rw [hx]; decide) (by rw [hx]; decide) (by decide) ?_
    refine gx_aload_n 0 dX10_amount_99 rfl rfl ?_
    refine gx_getR kf_RX10_10 dX10_amount_100 (fun a13 => ?_)
    refine gx_getR kf_RX10_248 dX10_amount_103 (fun a14 => ?_)
    refine gx_getI kf_RX10_252 dX10_amount_106 (fun x15 => ?_)
    exact gx_iret dX10_amount_109 rfl
  refine gx_ite (fun hx => ?_) (fun hx8 => ?_)
  · refine gx_tabIn (off := 101) 110 dX10_amount_9 (by rw [hx]; decide) (by rw [hx]; decide) (by rw [hx]; decide) (by decide) ?_
    refine gx_aload_n 0 dX10_amount_110 rfl rfl ?_
    refine gx_getR kf_RX10_10 dX10_amount_111 (fun a16 => ?_)
    refine gx_getR kf_RX10_259 dX10_amount_114 (fun a17 => ?_)
    refine gx_getI kf_RX10_252 dX10_amount_117 (fun x18 => ?_)
    exact gx_iret dX10_amount_120 rfl
  refine gx_ite (fun hx => ?_) (fun hx9 => ?_)
  · refine gx_tabIn (off := 112) 121 dX10_amount_9 (by rw [hx]; decide) (by rw [hx]; decide) (by rw [hx]; decide) (by decide) ?_
    refine gx_aload_n 0 dX10_amount_121 rfl rfl ?_
    refine gx_getR kf_RX10_10 dX10_amount_122 (fun a19 => ?_)
    refine gx_getR kf_RX10_89 dX10_amount_125 (fun a20 => ?_)
    refine gx_getI kf_RX10_157 dX10_amount_128 (fun x21 => ?_)
    exact gx_iret dX10_amount_131 rfl
  refine gx_tabOut 132 dX10_amount_9 (by have q0 := lv_neT hx0 (a := 0) (by decide); have q1 := lv_neT hx1 (a := 1) (by decide); have q2 := lv_neT hx2 (a := 2) (by decide); have q3 := lv_neT hx3 (a := 3) (by decide); have q4 := lv_neT hx4 (a := 4) (by decide); have q5 := lv_neT hx5 (a := 5) (by decide); have q6 := lv_neT hx6 (a := 6) (by decide); have q7 := lv_neT hx7 (a := 7) (by decide); have q8 := lv_neT hx8 (a := 8) (by decide); have q9 := lv_neT hx9 (a := 9) (by decide); omega) (by decide) ?_
  refine gx_aload_n 0 dX10_amount_132 rfl rfl ?_
  refine gx_getR kf_RX10_27 dX10_amount_133 (fun a22 => ?_)
  refine gx_getI kf_RX10_114 dX10_amount_136 (fun x23 => ?_)
  exact gx_iret dX10_amount_139 rfl
theorem okX10_amount {E : gx_Env} (d : Nat) {v0 : Nat} {v1 : Int32} {h : gx_H} {r : Int32} {h1 : gx_H} (q : fX10_amount v0 v1 h = some (r, h1)) : gx_M E yX10_amount cX10_amount 3 (some .int) (d + 2) 0 0 [.ref v0, .int v1] h ((fun x : Int32 => some (.int x)) r) h1 := gx_meth (y := yX10_amount) (cc := cX10_amount) (nL := 3) (em := (fun x : Int32 => some (.int x))) (ini := false) [.ref v0, .int v1] (by decide) (by simp [gx_sl]) (fun q => by cases q) (geX10_amount v0 v1 h) q
theorem dX10_count_0 : decode cX10_count 0 = .ok (.iload_n 1, 1) := by decide +kernel
theorem dX10_count_1 : decode cX10_count 1 = .ok (.iconst 0, 1) := by decide +kernel
theorem dX10_count_2 : decode cX10_count 2 = .ok (.bipush 10, 2) := by decide +kernel
theorem dX10_count_4 : decode cX10_count 4 = .ok (.invokestatic 62, 3) := by decide +kernel
theorem dX10_count_7 : decode cX10_count 7 = .ok (.ifCond .eq 11, 3) := by decide +kernel
theorem dX10_count_10 : decode cX10_count 10 = .ok (.aload_n 0, 1) := by decide +kernel
theorem dX10_count_11 : decode cX10_count 11 = .ok (.iload_n 1, 1) := by decide +kernel
theorem dX10_count_12 : decode cX10_count 12 = .ok (.invokevirtual 293, 3) := by decide +kernel
theorem dX10_count_15 : decode cX10_count 15 = .ok (.goto 9, 3) := by decide +kernel
theorem dX10_count_18 : decode cX10_count 18 = .ok (.aload_n 0, 1) := by decide +kernel
theorem dX10_count_19 : decode cX10_count 19 = .ok (.bipush (-2), 2) := by decide +kernel
theorem dX10_count_21 : decode cX10_count 21 = .ok (.invokevirtual 66, 3) := by decide +kernel
theorem dX10_count_24 : decode cX10_count 24 = .ok (.ireturn, 1) := by decide +kernel
def fX10_count_24 (s0 : Int32) (h : gx_H) : Option (Int32 × gx_H) :=
  some (s0, h)
def fX10_count (v0 : Nat) (v1 : Int32) (h : gx_H) : Option (Int32 × gx_H) :=
  (gx_isO h v0 8).bind fun _ =>
  gx_bd (fX10_within v1 (0 : Int32) (10 : Int32) h) fun x2 h1 =>
  if x2 = 0 then
    gx_bd (fX10_refuse v0 (-2 : Int32) h1) fun x4 h3 =>
    fX10_count_24 x4 h3
  else
    gx_bd (fX10_amount v0 v1 h1) fun x6 h5 =>
    fX10_count_24 x6 h5
set_option maxRecDepth 100000 in
set_option maxHeartbeats 4000000 in
theorem gX10_count_24 {E : gx_Env} {d : Nat}  : ∀ (s0 : Int32) (h : gx_H), gx_G E RX10 cX10_count 2 (some .int) false (d + 3) 0 0 24 [none, none] [.int s0] h (fun x : Int32 => some (.int x)) (fX10_count_24 s0 h) := by
  intro s0 h
  unfold fX10_count_24
  exact gx_iret dX10_count_24 rfl
set_option maxRecDepth 100000 in
set_option maxHeartbeats 4000000 in
theorem geX10_count {E : gx_Env} {d : Nat} (v0 : Nat) (v1 : Int32) (h : gx_H) : gx_G E RX10 cX10_count 2 (some .int) false (d + 3) 0 0 0 [some (.ref v0), some (.int v1)] [] h (fun x : Int32 => some (.int x)) (fX10_count v0 v1 h) := by
  unfold fX10_count
  refine gx_bind fun _ _ => ?_
  refine gx_iload_n 1 dX10_count_0 rfl rfl ?_
  refine gx_iconst (0 : Int32) dX10_count_1 (by decide) ?_
  refine gx_bipush (10 : Int32) dX10_count_2 (by decide) ?_
  refine gx_callS (bc := 0) (bs := 0) (mc := 0) (ms := 0) (em' := (fun x : Int32 => some (.int x))) [.int v1, .int (0 : Int32), .int (10 : Int32)] kc_RX10_62 dX10_count_4 rfl rfl (gx_w8 rfl) (fun _ _ q => okX10_within (d + 2) q) (fun x2 h1 => ?_)
  refine gx_if_eq 18 dX10_count_7 (by decide) (fun _ => ?_) (fun _ => ?_)
  · refine gx_aload_n 0 dX10_count_18 rfl rfl ?_
    refine gx_bipush (-2 : Int32) dX10_count_19 (by decide) ?_
    refine gx_callV (ci := 8) (bc := 0) (bs := 0) (mc := 0) (ms := 0) (em' := (fun x : Int32 => some (.int x))) [.int (-2 : Int32)] kc_RX10_66 rfl dX10_count_21 rfl rfl (gx_w8 rfl) (fun x q => (gx_isO_of (by unfold fX10_refuse at q; exact q)).2) (fun _ _ q => okX10_refuse (d + 2) q) (fun x4 h3 => ?_)
    exact gx_sub (gX10_count_24 x4 h3) True.intro
  · refine gx_aload_n 0 dX10_count_10 rfl rfl ?_
    refine gx_iload_n 1 dX10_count_11 rfl rfl ?_
    refine gx_callV (ci := 8) (bc := 0) (bs := 0) (mc := 0) (ms := 0) (em' := (fun x : Int32 => some (.int x))) [.int v1] kc_RX10_293 rfl dX10_count_12 rfl rfl (gx_w8 rfl) (fun x q => (gx_isO_of (by unfold fX10_amount at q; exact q)).2) (fun _ _ q => okX10_amount d q) (fun x6 h5 => ?_)
    refine gx_goto 24 dX10_count_15 (by decide) ?_
    exact gx_sub (gX10_count_24 x6 h5) True.intro
theorem okX10_count {E : gx_Env} (d : Nat) {v0 : Nat} {v1 : Int32} {h : gx_H} {r : Int32} {h1 : gx_H} (q : fX10_count v0 v1 h = some (r, h1)) : gx_M E yX10_count cX10_count 2 (some .int) (d + 3) 0 0 [.ref v0, .int v1] h ((fun x : Int32 => some (.int x)) r) h1 := gx_meth (y := yX10_count) (cc := cX10_count) (nL := 2) (em := (fun x : Int32 => some (.int x))) (ini := false) [.ref v0, .int v1] (by decide) (by simp [gx_sl]) (fun q => by cases q) (geX10_count v0 v1 h) q
theorem dX10_digest_0 : decode cX10_digest 0 = .ok (.ldc2_w 296, 3) := by decide +kernel
theorem dX10_digest_3 : decode cX10_digest 3 = .ok (.lstore_n 1, 1) := by decide +kernel
theorem dX10_digest_4 : decode cX10_digest 4 = .ok (.iconst 0, 1) := by decide +kernel
theorem dX10_digest_5 : decode cX10_digest 5 = .ok (.istore_n 3, 1) := by decide +kernel
theorem dX10_digest_6 : decode cX10_digest 6 = .ok (.iload_n 3, 1) := by decide +kernel
theorem dX10_digest_7 : decode cX10_digest 7 = .ok (.bipush 10, 2) := by decide +kernel
theorem dX10_digest_9 : decode cX10_digest 9 = .ok (.if_icmp .gt 22, 3) := by decide +kernel
theorem dX10_digest_12 : decode cX10_digest 12 = .ok (.ldc2_w 298, 3) := by decide +kernel
theorem dX10_digest_15 : decode cX10_digest 15 = .ok (.lload_n 1, 1) := by decide +kernel
theorem dX10_digest_16 : decode cX10_digest 16 = .ok (.lmul, 1) := by decide +kernel
theorem dX10_digest_17 : decode cX10_digest 17 = .ok (.aload_n 0, 1) := by decide +kernel
theorem dX10_digest_18 : decode cX10_digest 18 = .ok (.iload_n 3, 1) := by decide +kernel
theorem dX10_digest_19 : decode cX10_digest 19 = .ok (.invokevirtual 293, 3) := by decide +kernel
theorem dX10_digest_22 : decode cX10_digest 22 = .ok (.i2l, 1) := by decide +kernel
theorem dX10_digest_23 : decode cX10_digest 23 = .ok (.ladd, 1) := by decide +kernel
theorem dX10_digest_24 : decode cX10_digest 24 = .ok (.lstore_n 1, 1) := by decide +kernel
theorem dX10_digest_25 : decode cX10_digest 25 = .ok (.iinc 3 1, 3) := by decide +kernel
theorem dX10_digest_28 : decode cX10_digest 28 = .ok (.goto (-22), 3) := by decide +kernel
theorem dX10_digest_31 : decode cX10_digest 31 = .ok (.aload_n 0, 1) := by decide +kernel
theorem dX10_digest_32 : decode cX10_digest 32 = .ok (.getfield 10, 3) := by decide +kernel
theorem dX10_digest_35 : decode cX10_digest 35 = .ok (.lload_n 1, 1) := by decide +kernel
theorem dX10_digest_36 : decode cX10_digest 36 = .ok (.invokevirtual 300, 3) := by decide +kernel
theorem dX10_digest_39 : decode cX10_digest 39 = .ok (.lstore_n 1, 1) := by decide +kernel
theorem dX10_digest_40 : decode cX10_digest 40 = .ok (.ldc2_w 298, 3) := by decide +kernel
theorem dX10_digest_43 : decode cX10_digest 43 = .ok (.lload_n 1, 1) := by decide +kernel
theorem dX10_digest_44 : decode cX10_digest 44 = .ok (.lmul, 1) := by decide +kernel
theorem dX10_digest_45 : decode cX10_digest 45 = .ok (.aload_n 0, 1) := by decide +kernel
theorem dX10_digest_46 : decode cX10_digest 46 = .ok (.getfield 45, 3) := by decide +kernel
theorem dX10_digest_49 : decode cX10_digest 49 = .ok (.ladd, 1) := by decide +kernel
theorem dX10_digest_50 : decode cX10_digest 50 = .ok (.lstore_n 1, 1) := by decide +kernel
theorem dX10_digest_51 : decode cX10_digest 51 = .ok (.ldc2_w 298, 3) := by decide +kernel
theorem dX10_digest_54 : decode cX10_digest 54 = .ok (.lload_n 1, 1) := by decide +kernel
theorem dX10_digest_55 : decode cX10_digest 55 = .ok (.lmul, 1) := by decide +kernel
theorem dX10_digest_56 : decode cX10_digest 56 = .ok (.aload_n 0, 1) := by decide +kernel
theorem dX10_digest_57 : decode cX10_digest 57 = .ok (.getfield 49, 3) := by decide +kernel
theorem dX10_digest_60 : decode cX10_digest 60 = .ok (.ladd, 1) := by decide +kernel
theorem dX10_digest_61 : decode cX10_digest 61 = .ok (.lreturn, 1) := by decide +kernel
def bX10_digest_6 (k6 : Nat → Int64 → Int32 → gx_H → Option (Int64 × gx_H)) (v0 : Nat) (v1 : Int64) (v3 : Int32) (h : gx_H) : Option (Int64 × gx_H) :=
  if (10 : Int32) < v3 then
    (gx_fR h v0 8 0).bind fun a1 =>
    gx_bd (fX1_digestOn a1 v1 h) fun y3 h2 =>
    (gx_fJ h2 v0 8 6).bind fun y4 =>
    (gx_fJ h2 v0 8 7).bind fun y5 =>
    some ((((31 : Int64) * (((31 : Int64) * y3) + y4)) + y5), h2)
  else
    gx_bd (fX10_amount v0 v3 h) fun x7 h6 =>
    k6 v0 (((31 : Int64) * v1) + ((x7).toInt64)) (v3 + (1 : Int32)) h6
def fX10_digest_6 : Nat → Nat → Int64 → Int32 → gx_H → Option (Int64 × gx_H)
  | 0 => fun _ _ _ _ => none
  | n + 1 => bX10_digest_6 (fX10_digest_6 n)
def fX10_digest (v0 : Nat) (h : gx_H) : Option (Int64 × gx_H) :=
  (gx_isO h v0 8).bind fun _ =>
  fX10_digest_6 gx_N v0 (1831 : Int64) (0 : Int32) h
set_option maxRecDepth 100000 in
set_option maxHeartbeats 4000000 in
theorem gbX10_digest_6 {E : gx_Env} {d : Nat}  (k6 : Nat → Int64 → Int32 → gx_H → Option (Int64 × gx_H)) (hk6 : ∀ (v0 : Nat) (v1 : Int64) (v3 : Int32) (h : gx_H), gx_G E RX10 cX10_digest 4 (some .long) false (d + 3) 0 0 6 [some (.ref v0), some (.long v1), none, some (.int v3)] [] h (fun x : Int64 => some (.long x)) (k6 v0 v1 v3 h))  : ∀ (v0 : Nat) (v1 : Int64) (v3 : Int32) (h : gx_H), gx_G E RX10 cX10_digest 4 (some .long) false (d + 3) 0 0 6 [some (.ref v0), some (.long v1), none, some (.int v3)] [] h (fun x : Int64 => some (.long x)) (bX10_digest_6 k6 v0 v1 v3 h) := by
  intro v0 v1 v3 h
  unfold bX10_digest_6
  refine gx_iload_n 3 dX10_digest_6 rfl rfl ?_
  refine gx_bipush (10 : Int32) dX10_digest_7 (by decide) ?_
  refine gx_icmp_gt 31 dX10_digest_9 (by decide) (fun _ => ?_) (fun _ => ?_)
  · refine gx_aload_n 0 dX10_digest_31 rfl rfl ?_
    refine gx_getR kf_RX10_10 dX10_digest_32 (fun a1 => ?_)
    refine gx_lload_n 1 dX10_digest_35 rfl rfl ?_
    refine gx_callV (ci := 1) (bc := 0) (bs := 0) (mc := 0) (ms := 0) (em' := (fun x : Int64 => some (.long x))) [.long v1] kc_RX10_300 rfl dX10_digest_36 rfl rfl (gx_w8 rfl) (fun x q => (gx_isO_of (by unfold fX1_digestOn at q; exact q)).2) (fun _ _ q => okX1_digestOn (d + 1) q) (fun y3 h2 => ?_)
    refine gx_lstore_n 1 [some (.ref v0), some (.long y3), none, some (.int v3)] dX10_digest_39 rfl (by decide) rfl ?_
    refine gx_ldc2 kk_RX10_298 dX10_digest_40 ?_
    refine gx_lload_n 1 dX10_digest_43 rfl rfl ?_
    refine gx_lmul dX10_digest_44 ?_
    refine gx_aload_n 0 dX10_digest_45 rfl rfl ?_
    refine gx_getJ kf_RX10_45 dX10_digest_46 (fun y4 => ?_)
    refine gx_ladd dX10_digest_49 ?_
    refine gx_lstore_n 1 [some (.ref v0), some (.long (((31 : Int64) * y3) + y4)), none, some (.int v3)] dX10_digest_50 rfl (by decide) rfl ?_
    refine gx_ldc2 kk_RX10_298 dX10_digest_51 ?_
    refine gx_lload_n 1 dX10_digest_54 rfl rfl ?_
    refine gx_lmul dX10_digest_55 ?_
    refine gx_aload_n 0 dX10_digest_56 rfl rfl ?_
    refine gx_getJ kf_RX10_49 dX10_digest_57 (fun y5 => ?_)
    refine gx_ladd dX10_digest_60 ?_
    exact gx_lret dX10_digest_61 rfl
  · refine gx_ldc2 kk_RX10_298 dX10_digest_12 ?_
    refine gx_lload_n 1 dX10_digest_15 rfl rfl ?_
    refine gx_lmul dX10_digest_16 ?_
    refine gx_aload_n 0 dX10_digest_17 rfl rfl ?_
    refine gx_iload_n 3 dX10_digest_18 rfl rfl ?_
    refine gx_callV (ci := 8) (bc := 0) (bs := 0) (mc := 0) (ms := 0) (em' := (fun x : Int32 => some (.int x))) [.int v3] kc_RX10_293 rfl dX10_digest_19 rfl rfl (gx_w8 rfl) (fun x q => (gx_isO_of (by unfold fX10_amount at q; exact q)).2) (fun _ _ q => okX10_amount d q) (fun x7 h6 => ?_)
    refine gx_i2l dX10_digest_22 ?_
    refine gx_ladd dX10_digest_23 ?_
    refine gx_lstore_n 1 [some (.ref v0), some (.long (((31 : Int64) * v1) + ((x7).toInt64))), none, some (.int v3)] dX10_digest_24 rfl (by decide) rfl ?_
    refine gx_iinc (1 : Int32) [some (.ref v0), some (.long (((31 : Int64) * v1) + ((x7).toInt64))), none, some (.int (v3 + (1 : Int32)))] dX10_digest_25 rfl (by decide) (by decide) rfl ?_
    refine gx_goto 6 dX10_digest_28 (by decide) ?_
    exact gx_sub (hk6 v0 (((31 : Int64) * v1) + ((x7).toInt64)) (v3 + (1 : Int32)) h6) (And.intro rfl (And.intro rfl (And.intro rfl True.intro)))
set_option maxRecDepth 100000 in
set_option maxHeartbeats 4000000 in
theorem gX10_digest_6 {E : gx_Env} {d : Nat}  : ∀ (n : Nat) (v0 : Nat) (v1 : Int64) (v3 : Int32) (h : gx_H), gx_G E RX10 cX10_digest 4 (some .long) false (d + 3) 0 0 6 [some (.ref v0), some (.long v1), none, some (.int v3)] [] h (fun x : Int64 => some (.long x)) (fX10_digest_6 n v0 v1 v3 h) := by
  intro n
  induction n with
  | zero => intro v0 v1 v3 h; exact gx_none
  | succ n ih => exact gbX10_digest_6  (fX10_digest_6  n) ih
set_option maxRecDepth 100000 in
set_option maxHeartbeats 4000000 in
theorem geX10_digest {E : gx_Env} {d : Nat} (v0 : Nat) (h : gx_H) : gx_G E RX10 cX10_digest 4 (some .long) false (d + 3) 0 0 0 [some (.ref v0), none, none, none] [] h (fun x : Int64 => some (.long x)) (fX10_digest v0 h) := by
  unfold fX10_digest
  refine gx_bind fun _ _ => ?_
  refine gx_ldc2 kk_RX10_296 dX10_digest_0 ?_
  refine gx_lstore_n 1 [some (.ref v0), some (.long (1831 : Int64)), none, none] dX10_digest_3 rfl (by decide) rfl ?_
  refine gx_iconst (0 : Int32) dX10_digest_4 (by decide) ?_
  refine gx_istore_n 3 [some (.ref v0), some (.long (1831 : Int64)), none, some (.int (0 : Int32))] dX10_digest_5 rfl (by decide) rfl ?_
  exact gx_sub (gX10_digest_6 gx_N v0 (1831 : Int64) (0 : Int32) h) (And.intro rfl (And.intro rfl (And.intro rfl True.intro)))
theorem okX10_digest {E : gx_Env} (d : Nat) {v0 : Nat} {h : gx_H} {r : Int64} {h1 : gx_H} (q : fX10_digest v0 h = some (r, h1)) : gx_M E yX10_digest cX10_digest 4 (some .long) (d + 3) 0 0 [.ref v0] h ((fun x : Int64 => some (.long x)) r) h1 := gx_meth (y := yX10_digest) (cc := cX10_digest) (nL := 4) (em := (fun x : Int64 => some (.long x))) (ini := false) [.ref v0] (by decide) (by simp [gx_sl]) (fun q => by cases q) (geX10_digest v0 h) q
theorem dX11_init_0 : decode cX11_init 0 = .ok (.aload_n 0, 1) := by decide +kernel
theorem dX11_init_1 : decode cX11_init 1 = .ok (.invokespecial 1, 3) := by decide +kernel
theorem dX11_init_4 : decode cX11_init 4 = .ok (.aload_n 0, 1) := by decide +kernel
theorem dX11_init_5 : decode cX11_init 5 = .ok (.sipush 852, 3) := by decide +kernel
theorem dX11_init_8 : decode cX11_init 8 = .ok (.newarray .int, 2) := by decide +kernel
theorem dX11_init_10 : decode cX11_init 10 = .ok (.putfield 7, 3) := by decide +kernel
theorem dX11_init_13 : decode cX11_init 13 = .ok (.aload_n 0, 1) := by decide +kernel
theorem dX11_init_14 : decode cX11_init 14 = .ok (.iconst 2, 1) := by decide +kernel
theorem dX11_init_15 : decode cX11_init 15 = .ok (.newarray .boolean, 2) := by decide +kernel
theorem dX11_init_17 : decode cX11_init 17 = .ok (.putfield 13, 3) := by decide +kernel
theorem dX11_init_20 : decode cX11_init 20 = .ok (.aload_n 0, 1) := by decide +kernel
theorem dX11_init_21 : decode cX11_init 21 = .ok (.sipush 150, 3) := by decide +kernel
theorem dX11_init_24 : decode cX11_init 24 = .ok (.newarray .int, 2) := by decide +kernel
theorem dX11_init_26 : decode cX11_init 26 = .ok (.putfield 17, 3) := by decide +kernel
theorem dX11_init_29 : decode cX11_init 29 = .ok (.aload_n 0, 1) := by decide +kernel
theorem dX11_init_30 : decode cX11_init 30 = .ok (.lconst 0, 1) := by decide +kernel
theorem dX11_init_31 : decode cX11_init 31 = .ok (.putfield 20, 3) := by decide +kernel
theorem dX11_init_34 : decode cX11_init 34 = .ok (.aload_n 0, 1) := by decide +kernel
theorem dX11_init_35 : decode cX11_init 35 = .ok (.lconst 1, 1) := by decide +kernel
theorem dX11_init_36 : decode cX11_init 36 = .ok (.putfield 24, 3) := by decide +kernel
theorem dX11_init_39 : decode cX11_init 39 = .ok (.aload_n 0, 1) := by decide +kernel
theorem dX11_init_40 : decode cX11_init 40 = .ok (.iconst 3, 1) := by decide +kernel
theorem dX11_init_41 : decode cX11_init 41 = .ok (.newarray .int, 2) := by decide +kernel
theorem dX11_init_43 : decode cX11_init 43 = .ok (.putfield 27, 3) := by decide +kernel
theorem dX11_init_46 : decode cX11_init 46 = .ok (.aload_n 0, 1) := by decide +kernel
theorem dX11_init_47 : decode cX11_init 47 = .ok (.bipush 41, 2) := by decide +kernel
theorem dX11_init_49 : decode cX11_init 49 = .ok (.newarray .boolean, 2) := by decide +kernel
theorem dX11_init_51 : decode cX11_init 51 = .ok (.putfield 30, 3) := by decide +kernel
theorem dX11_init_54 : decode cX11_init 54 = .ok (.aload_n 0, 1) := by decide +kernel
theorem dX11_init_55 : decode cX11_init 55 = .ok (.bipush 49, 2) := by decide +kernel
theorem dX11_init_57 : decode cX11_init 57 = .ok (.newarray .int, 2) := by decide +kernel
theorem dX11_init_59 : decode cX11_init 59 = .ok (.putfield 33, 3) := by decide +kernel
theorem dX11_init_62 : decode cX11_init 62 = .ok (.aload_n 0, 1) := by decide +kernel
theorem dX11_init_63 : decode cX11_init 63 = .ok (.bipush 49, 2) := by decide +kernel
theorem dX11_init_65 : decode cX11_init 65 = .ok (.newarray .int, 2) := by decide +kernel
theorem dX11_init_67 : decode cX11_init 67 = .ok (.putfield 36, 3) := by decide +kernel
theorem dX11_init_70 : decode cX11_init 70 = .ok (.aload_n 0, 1) := by decide +kernel
theorem dX11_init_71 : decode cX11_init 71 = .ok (.getfield 7, 3) := by decide +kernel
theorem dX11_init_74 : decode cX11_init 74 = .ok (.iconst 0, 1) := by decide +kernel
theorem dX11_init_75 : decode cX11_init 75 = .ok (.bipush 20, 2) := by decide +kernel
theorem dX11_init_77 : decode cX11_init 77 = .ok (.iastore, 1) := by decide +kernel
theorem dX11_init_78 : decode cX11_init 78 = .ok (.aload_n 0, 1) := by decide +kernel
theorem dX11_init_79 : decode cX11_init 79 = .ok (.getfield 7, 3) := by decide +kernel
theorem dX11_init_82 : decode cX11_init 82 = .ok (.iconst 1, 1) := by decide +kernel
theorem dX11_init_83 : decode cX11_init 83 = .ok (.bipush 6, 2) := by decide +kernel
theorem dX11_init_85 : decode cX11_init 85 = .ok (.iastore, 1) := by decide +kernel
theorem dX11_init_86 : decode cX11_init 86 = .ok (.return_, 1) := by decide +kernel
def fX11_init (v0 : Nat) (h : gx_H) : Option (Unit × gx_H) :=
  gx_let (gx_new (.inl (0, 852, .inl (fun _ => 0))) h) fun h1 =>
  (gx_pF h1 v0 9 0 (.ref h.1)).bind fun h2 =>
  gx_let (gx_new (.inl (2, 2, .inl (fun _ => 0))) h2) fun h3 =>
  (gx_pF h3 v0 9 1 (.ref h2.1)).bind fun h4 =>
  gx_let (gx_new (.inl (0, 150, .inl (fun _ => 0))) h4) fun h5 =>
  (gx_pF h5 v0 9 2 (.ref h4.1)).bind fun h6 =>
  (gx_pF h6 v0 9 4 (.long (0 : Int64))).bind fun h7 =>
  (gx_pF h7 v0 9 5 (.long (1 : Int64))).bind fun h8 =>
  gx_let (gx_new (.inl (0, 3, .inl (fun _ => 0))) h8) fun h9 =>
  (gx_pF h9 v0 9 6 (.ref h8.1)).bind fun h10 =>
  gx_let (gx_new (.inl (2, 41, .inl (fun _ => 0))) h10) fun h11 =>
  (gx_pF h11 v0 9 10 (.ref h10.1)).bind fun h12 =>
  gx_let (gx_new (.inl (0, 49, .inl (fun _ => 0))) h12) fun h13 =>
  (gx_pF h13 v0 9 11 (.ref h12.1)).bind fun h14 =>
  gx_let (gx_new (.inl (0, 49, .inl (fun _ => 0))) h14) fun h15 =>
  (gx_pF h15 v0 9 12 (.ref h14.1)).bind fun h16 =>
  (gx_fR h16 v0 9 0).bind fun a17 =>
  (gx_sI 0 h16 a17 (0 : Int32) (20 : Int32)).bind fun h18 =>
  (gx_fR h18 v0 9 0).bind fun a19 =>
  (gx_sI 0 h18 a19 (1 : Int32) (6 : Int32)).bind fun h20 =>
  some ((), h20)
set_option maxRecDepth 100000 in
set_option maxHeartbeats 4000000 in
theorem geX11_init {E : gx_Env} {d : Nat} (v0 : Nat) (h : gx_H) : gx_G E RX11 cX11_init 1 none true (d + 1) 7 1146 0 [some (.ref v0)] [] h (fun _ : Unit => none) (fX11_init v0 h) := by
  unfold fX11_init
  refine gx_aload_n 0 dX11_init_0 rfl rfl ?_
  refine gx_obj kk_RX11_1 ko_i ko_c dX11_init_1 (by decide) ?_
  refine gx_aload_n 0 dX11_init_4 rfl rfl ?_
  refine gx_sipush (852 : Int32) dX11_init_5 (by decide) ?_
  refine gx_newA0 (bc := 6) (bs := 294) 852 ka_int dX11_init_8 (by decide) (by decide) (by decide) ?_
  refine gx_letG ?_
  generalize (gx_new (.inl (0, 852, .inl (fun _ => 0))) h) = h1
  refine gx_putA kp_RX11_7 (fun _ => rfl) dX11_init_10 (fun h2 => ?_)
  refine gx_aload_n 0 dX11_init_13 rfl rfl ?_
  refine gx_iconst (2 : Int32) dX11_init_14 (by decide) ?_
  refine gx_newA2 (bc := 5) (bs := 292) 2 ka_boolean dX11_init_15 (by decide) (by decide) (by decide) ?_
  refine gx_letG ?_
  generalize (gx_new (.inl (2, 2, .inl (fun _ => 0))) h2) = h3
  refine gx_putA kp_RX11_13 (fun _ => rfl) dX11_init_17 (fun h4 => ?_)
  refine gx_aload_n 0 dX11_init_20 rfl rfl ?_
  refine gx_sipush (150 : Int32) dX11_init_21 (by decide) ?_
  refine gx_newA0 (bc := 4) (bs := 142) 150 ka_int dX11_init_24 (by decide) (by decide) (by decide) ?_
  refine gx_letG ?_
  generalize (gx_new (.inl (0, 150, .inl (fun _ => 0))) h4) = h5
  refine gx_putA kp_RX11_17 (fun _ => rfl) dX11_init_26 (fun h6 => ?_)
  refine gx_aload_n 0 dX11_init_29 rfl rfl ?_
  refine gx_lconst (0 : Int64) dX11_init_30 (by decide) ?_
  refine gx_putJ kp_RX11_20 (fun _ => rfl) dX11_init_31 (fun h7 => ?_)
  refine gx_aload_n 0 dX11_init_34 rfl rfl ?_
  refine gx_lconst (1 : Int64) dX11_init_35 (by decide) ?_
  refine gx_putJ kp_RX11_24 (fun _ => rfl) dX11_init_36 (fun h8 => ?_)
  refine gx_aload_n 0 dX11_init_39 rfl rfl ?_
  refine gx_iconst (3 : Int32) dX11_init_40 (by decide) ?_
  refine gx_newA0 (bc := 3) (bs := 139) 3 ka_int dX11_init_41 (by decide) (by decide) (by decide) ?_
  refine gx_letG ?_
  generalize (gx_new (.inl (0, 3, .inl (fun _ => 0))) h8) = h9
  refine gx_putA kp_RX11_27 (fun _ => rfl) dX11_init_43 (fun h10 => ?_)
  refine gx_aload_n 0 dX11_init_46 rfl rfl ?_
  refine gx_bipush (41 : Int32) dX11_init_47 (by decide) ?_
  refine gx_newA2 (bc := 2) (bs := 98) 41 ka_boolean dX11_init_49 (by decide) (by decide) (by decide) ?_
  refine gx_letG ?_
  generalize (gx_new (.inl (2, 41, .inl (fun _ => 0))) h10) = h11
  refine gx_putA kp_RX11_30 (fun _ => rfl) dX11_init_51 (fun h12 => ?_)
  refine gx_aload_n 0 dX11_init_54 rfl rfl ?_
  refine gx_bipush (49 : Int32) dX11_init_55 (by decide) ?_
  refine gx_newA0 (bc := 1) (bs := 49) 49 ka_int dX11_init_57 (by decide) (by decide) (by decide) ?_
  refine gx_letG ?_
  generalize (gx_new (.inl (0, 49, .inl (fun _ => 0))) h12) = h13
  refine gx_putA kp_RX11_33 (fun _ => rfl) dX11_init_59 (fun h14 => ?_)
  refine gx_aload_n 0 dX11_init_62 rfl rfl ?_
  refine gx_bipush (49 : Int32) dX11_init_63 (by decide) ?_
  refine gx_newA0 (bc := 0) (bs := 0) 49 ka_int dX11_init_65 (by decide) (by decide) (by decide) ?_
  refine gx_letG ?_
  generalize (gx_new (.inl (0, 49, .inl (fun _ => 0))) h14) = h15
  refine gx_putA kp_RX11_36 (fun _ => rfl) dX11_init_67 (fun h16 => ?_)
  refine gx_aload_n 0 dX11_init_70 rfl rfl ?_
  refine gx_getR kf_RX11_7 dX11_init_71 (fun a17 => ?_)
  refine gx_iconst (0 : Int32) dX11_init_74 (by decide) ?_
  refine gx_bipush (20 : Int32) dX11_init_75 (by decide) ?_
  refine gx_iast dX11_init_77 (fun h18 => ?_)
  refine gx_aload_n 0 dX11_init_78 rfl rfl ?_
  refine gx_getR kf_RX11_7 dX11_init_79 (fun a19 => ?_)
  refine gx_iconst (1 : Int32) dX11_init_82 (by decide) ?_
  refine gx_bipush (6 : Int32) dX11_init_83 (by decide) ?_
  refine gx_iast dX11_init_85 (fun h20 => ?_)
  exact gx_vret dX11_init_86 rfl
theorem okX11_init {E : gx_Env} (d : Nat) {v0 : Nat} {h : gx_H} {r : Unit} {h1 : gx_H} (q : fX11_init v0 h = some (r, h1)) : gx_M E yX11_init cX11_init 1 none (d + 1) 7 1146 [.ref v0] h ((fun _ : Unit => none) r) h1 := gx_meth (y := yX11_init) (cc := cX11_init) (nL := 1) (em := (fun _ : Unit => none)) (ini := true) [.ref v0] (by decide) (by simp [gx_sl]) (fun _ => rfl) (geX11_init v0 h) q
theorem dX11_in_0 : decode cX11_in 0 = .ok (.lload_n 0, 1) := by decide +kernel
theorem dX11_in_1 : decode cX11_in 1 = .ok (.lload_n 2, 1) := by decide +kernel
theorem dX11_in_2 : decode cX11_in 2 = .ok (.lcmp, 1) := by decide +kernel
theorem dX11_in_3 : decode cX11_in 3 = .ok (.ifCond .lt 14, 3) := by decide +kernel
theorem dX11_in_6 : decode cX11_in 6 = .ok (.lload_n 0, 1) := by decide +kernel
theorem dX11_in_7 : decode cX11_in 7 = .ok (.lload 4, 2) := by decide +kernel
theorem dX11_in_9 : decode cX11_in 9 = .ok (.lcmp, 1) := by decide +kernel
theorem dX11_in_10 : decode cX11_in 10 = .ok (.ifCond .gt 7, 3) := by decide +kernel
theorem dX11_in_13 : decode cX11_in 13 = .ok (.iconst 1, 1) := by decide +kernel
theorem dX11_in_14 : decode cX11_in 14 = .ok (.goto 4, 3) := by decide +kernel
theorem dX11_in_17 : decode cX11_in 17 = .ok (.iconst 0, 1) := by decide +kernel
theorem dX11_in_18 : decode cX11_in 18 = .ok (.ireturn, 1) := by decide +kernel
def fX11_in_18 (s0 : Int32) (h : gx_H) : Option (Int32 × gx_H) :=
  gx_ret .boolean s0 h
def fX11_in_17 (h : gx_H) : Option (Int32 × gx_H) :=
  fX11_in_18 (0 : Int32) h
def fX11_in (v0 : Int64) (v2 : Int64) (v4 : Int64) (h : gx_H) : Option (Int32 × gx_H) :=
  if (lg_cmp v0 v2) < 0 then
    fX11_in_17 h
  else
    if 0 < (lg_cmp v0 v4) then
      fX11_in_17 h
    else
      fX11_in_18 (1 : Int32) h
set_option maxRecDepth 100000 in
set_option maxHeartbeats 4000000 in
theorem gX11_in_18 {E : gx_Env} {d : Nat}  : ∀ (s0 : Int32) (h : gx_H), gx_G E RX11 cX11_in 6 (some .boolean) false d 0 0 18 [none, none, none, none, none, none] [.int s0] h (fun x : Int32 => some (.int x)) (fX11_in_18 s0 h) := by
  intro s0 h
  unfold fX11_in_18
  exact gx_zret dX11_in_18 rfl
set_option maxRecDepth 100000 in
set_option maxHeartbeats 4000000 in
theorem gX11_in_17 {E : gx_Env} {d : Nat}  : ∀  (h : gx_H), gx_G E RX11 cX11_in 6 (some .boolean) false d 0 0 17 [none, none, none, none, none, none] [] h (fun x : Int32 => some (.int x)) (fX11_in_17 h) := by
  intro  h
  unfold fX11_in_17
  refine gx_iconst (0 : Int32) dX11_in_17 (by decide) ?_
  exact gx_sub (gX11_in_18 (0 : Int32) h) True.intro
set_option maxRecDepth 100000 in
set_option maxHeartbeats 4000000 in
theorem geX11_in {E : gx_Env} {d : Nat} (v0 : Int64) (v2 : Int64) (v4 : Int64) (h : gx_H) : gx_G E RX11 cX11_in 6 (some .boolean) false d 0 0 0 [some (.long v0), none, some (.long v2), none, some (.long v4), none] [] h (fun x : Int32 => some (.int x)) (fX11_in v0 v2 v4 h) := by
  unfold fX11_in
  refine gx_lload_n 0 dX11_in_0 rfl rfl ?_
  refine gx_lload_n 2 dX11_in_1 rfl rfl ?_
  refine gx_lcmp dX11_in_2 ?_
  refine gx_if_lt 17 dX11_in_3 (by decide) (fun _ => ?_) (fun _ => ?_)
  · exact gx_sub (gX11_in_17 h) True.intro
  · refine gx_lload_n 0 dX11_in_6 rfl rfl ?_
    refine gx_lload dX11_in_7 rfl ?_
    refine gx_lcmp dX11_in_9 ?_
    refine gx_if_gt 17 dX11_in_10 (by decide) (fun _ => ?_) (fun _ => ?_)
    · exact gx_sub (gX11_in_17 h) True.intro
    · refine gx_iconst (1 : Int32) dX11_in_13 (by decide) ?_
      refine gx_goto 18 dX11_in_14 (by decide) ?_
      exact gx_sub (gX11_in_18 (1 : Int32) h) True.intro
theorem okX11_in {E : gx_Env} (d : Nat) {v0 : Int64} {v2 : Int64} {v4 : Int64} {h : gx_H} {r : Int32} {h1 : gx_H} (q : fX11_in v0 v2 v4 h = some (r, h1)) : gx_M E yX11_in cX11_in 6 (some .boolean) d 0 0 [.long v0, .long v2, .long v4] h ((fun x : Int32 => some (.int x)) r) h1 := gx_meth (y := yX11_in) (cc := cX11_in) (nL := 6) (em := (fun x : Int32 => some (.int x))) (ini := false) [.long v0, .long v2, .long v4] (by decide) (by simp [gx_sl]) (fun q => by cases q) (geX11_in v0 v2 v4 h) q
theorem dX11_has_0 : decode cX11_has 0 = .ok (.iload_n 0, 1) := by decide +kernel
theorem dX11_has_1 : decode cX11_has 1 = .ok (.iload_n 1, 1) := by decide +kernel
theorem dX11_has_2 : decode cX11_has 2 = .ok (.ishr, 1) := by decide +kernel
theorem dX11_has_3 : decode cX11_has 3 = .ok (.iconst 1, 1) := by decide +kernel
theorem dX11_has_4 : decode cX11_has 4 = .ok (.iand, 1) := by decide +kernel
theorem dX11_has_5 : decode cX11_has 5 = .ok (.iconst 1, 1) := by decide +kernel
theorem dX11_has_6 : decode cX11_has 6 = .ok (.if_icmp .ne 7, 3) := by decide +kernel
theorem dX11_has_9 : decode cX11_has 9 = .ok (.iconst 1, 1) := by decide +kernel
theorem dX11_has_10 : decode cX11_has 10 = .ok (.goto 4, 3) := by decide +kernel
theorem dX11_has_13 : decode cX11_has 13 = .ok (.iconst 0, 1) := by decide +kernel
theorem dX11_has_14 : decode cX11_has 14 = .ok (.ireturn, 1) := by decide +kernel
def fX11_has_14 (s0 : Int32) (h : gx_H) : Option (Int32 × gx_H) :=
  gx_ret .boolean s0 h
def fX11_has (v0 : Int32) (v1 : Int32) (h : gx_H) : Option (Int32 × gx_H) :=
  if ((v0 >>> (v1 &&& 31)) &&& (1 : Int32)) = (1 : Int32) then
    fX11_has_14 (1 : Int32) h
  else
    fX11_has_14 (0 : Int32) h
set_option maxRecDepth 100000 in
set_option maxHeartbeats 4000000 in
theorem gX11_has_14 {E : gx_Env} {d : Nat}  : ∀ (s0 : Int32) (h : gx_H), gx_G E RX11 cX11_has 2 (some .boolean) false d 0 0 14 [none, none] [.int s0] h (fun x : Int32 => some (.int x)) (fX11_has_14 s0 h) := by
  intro s0 h
  unfold fX11_has_14
  exact gx_zret dX11_has_14 rfl
set_option maxRecDepth 100000 in
set_option maxHeartbeats 4000000 in
theorem geX11_has {E : gx_Env} {d : Nat} (v0 : Int32) (v1 : Int32) (h : gx_H) : gx_G E RX11 cX11_has 2 (some .boolean) false d 0 0 0 [some (.int v0), some (.int v1)] [] h (fun x : Int32 => some (.int x)) (fX11_has v0 v1 h) := by
  unfold fX11_has
  refine gx_iload_n 0 dX11_has_0 rfl rfl ?_
  refine gx_iload_n 1 dX11_has_1 rfl rfl ?_
  refine gx_ishr dX11_has_2 ?_
  refine gx_iconst (1 : Int32) dX11_has_3 (by decide) ?_
  refine gx_iand dX11_has_4 ?_
  refine gx_iconst (1 : Int32) dX11_has_5 (by decide) ?_
  refine gx_icmp_ne 13 dX11_has_6 (by decide) (fun _ => ?_) (fun _ => ?_)
  · refine gx_iconst (0 : Int32) dX11_has_13 (by decide) ?_
    exact gx_sub (gX11_has_14 (0 : Int32) h) True.intro
  · refine gx_iconst (1 : Int32) dX11_has_9 (by decide) ?_
    refine gx_goto 14 dX11_has_10 (by decide) ?_
    exact gx_sub (gX11_has_14 (1 : Int32) h) True.intro
theorem okX11_has {E : gx_Env} (d : Nat) {v0 : Int32} {v1 : Int32} {h : gx_H} {r : Int32} {h1 : gx_H} (q : fX11_has v0 v1 h = some (r, h1)) : gx_M E yX11_has cX11_has 2 (some .boolean) d 0 0 [.int v0, .int v1] h ((fun x : Int32 => some (.int x)) r) h1 := gx_meth (y := yX11_has) (cc := cX11_has) (nL := 2) (em := (fun x : Int32 => some (.int x))) (ini := false) [.int v0, .int v1] (by decide) (by simp [gx_sl]) (fun q => by cases q) (geX11_has v0 v1 h) q
theorem dX11_bad_0 : decode cX11_bad 0 = .ok (.aload_n 0, 1) := by decide +kernel
theorem dX11_bad_1 : decode cX11_bad 1 = .ok (.getfield 27, 3) := by decide +kernel
theorem dX11_bad_4 : decode cX11_bad 4 = .ok (.iconst 0, 1) := by decide +kernel
theorem dX11_bad_5 : decode cX11_bad 5 = .ok (.dup2, 1) := by decide +kernel
theorem dX11_bad_6 : decode cX11_bad 6 = .ok (.iaload, 1) := by decide +kernel
theorem dX11_bad_7 : decode cX11_bad 7 = .ok (.iconst 1, 1) := by decide +kernel
theorem dX11_bad_8 : decode cX11_bad 8 = .ok (.iadd, 1) := by decide +kernel
theorem dX11_bad_9 : decode cX11_bad 9 = .ok (.iastore, 1) := by decide +kernel
theorem dX11_bad_10 : decode cX11_bad 10 = .ok (.iload_n 1, 1) := by decide +kernel
theorem dX11_bad_11 : decode cX11_bad 11 = .ok (.ireturn, 1) := by decide +kernel
def fX11_bad (v0 : Nat) (v1 : Int32) (h : gx_H) : Option (Int32 × gx_H) :=
  (gx_isO h v0 9).bind fun _ =>
  (gx_fR h v0 9 6).bind fun a1 =>
  (gx_aI 0 h a1 (0 : Int32)).bind fun x2 =>
  (gx_sI 0 h a1 (0 : Int32) (x2 + (1 : Int32))).bind fun h3 =>
  some (v1, h3)
set_option maxRecDepth 100000 in
set_option maxHeartbeats 4000000 in
theorem geX11_bad {E : gx_Env} {d : Nat} (v0 : Nat) (v1 : Int32) (h : gx_H) : gx_G E RX11 cX11_bad 2 (some .int) false d 0 0 0 [some (.ref v0), some (.int v1)] [] h (fun x : Int32 => some (.int x)) (fX11_bad v0 v1 h) := by
  unfold fX11_bad
  refine gx_bind fun _ _ => ?_
  refine gx_aload_n 0 dX11_bad_0 rfl rfl ?_
  refine gx_getR kf_RX11_27 dX11_bad_1 (fun a1 => ?_)
  refine gx_iconst (0 : Int32) dX11_bad_4 (by decide) ?_
  refine gx_dup2 dX11_bad_5 rfl rfl ?_
  refine gx_iald dX11_bad_6 (fun x2 => ?_)
  refine gx_iconst (1 : Int32) dX11_bad_7 (by decide) ?_
  refine gx_iadd dX11_bad_8 ?_
  refine gx_iast dX11_bad_9 (fun h3 => ?_)
  refine gx_iload_n 1 dX11_bad_10 rfl rfl ?_
  exact gx_iret dX11_bad_11 rfl
theorem okX11_bad {E : gx_Env} (d : Nat) {v0 : Nat} {v1 : Int32} {h : gx_H} {r : Int32} {h1 : gx_H} (q : fX11_bad v0 v1 h = some (r, h1)) : gx_M E yX11_bad cX11_bad 2 (some .int) d 0 0 [.ref v0, .int v1] h ((fun x : Int32 => some (.int x)) r) h1 := gx_meth (y := yX11_bad) (cc := cX11_bad) (nL := 2) (em := (fun x : Int32 => some (.int x))) (ini := false) [.ref v0, .int v1] (by decide) (by simp [gx_sl]) (fun q => by cases q) (geX11_bad v0 v1 h) q
theorem dX11_no_0 : decode cX11_no 0 = .ok (.aload_n 0, 1) := by decide +kernel
theorem dX11_no_1 : decode cX11_no 1 = .ok (.getfield 27, 3) := by decide +kernel
theorem dX11_no_4 : decode cX11_no 4 = .ok (.iconst 1, 1) := by decide +kernel
theorem dX11_no_5 : decode cX11_no 5 = .ok (.dup2, 1) := by decide +kernel
theorem dX11_no_6 : decode cX11_no 6 = .ok (.iaload, 1) := by decide +kernel
theorem dX11_no_7 : decode cX11_no 7 = .ok (.iconst 1, 1) := by decide +kernel
theorem dX11_no_8 : decode cX11_no 8 = .ok (.iadd, 1) := by decide +kernel
theorem dX11_no_9 : decode cX11_no 9 = .ok (.iastore, 1) := by decide +kernel
theorem dX11_no_10 : decode cX11_no 10 = .ok (.bipush (-3), 2) := by decide +kernel
theorem dX11_no_12 : decode cX11_no 12 = .ok (.ireturn, 1) := by decide +kernel
def fX11_no (v0 : Nat) (h : gx_H) : Option (Int32 × gx_H) :=
  (gx_isO h v0 9).bind fun _ =>
  (gx_fR h v0 9 6).bind fun a1 =>
  (gx_aI 0 h a1 (1 : Int32)).bind fun x2 =>
  (gx_sI 0 h a1 (1 : Int32) (x2 + (1 : Int32))).bind fun h3 =>
  some ((-3 : Int32), h3)
set_option maxRecDepth 100000 in
set_option maxHeartbeats 4000000 in
theorem geX11_no {E : gx_Env} {d : Nat} (v0 : Nat) (h : gx_H) : gx_G E RX11 cX11_no 1 (some .int) false d 0 0 0 [some (.ref v0)] [] h (fun x : Int32 => some (.int x)) (fX11_no v0 h) := by
  unfold fX11_no
  refine gx_bind fun _ _ => ?_
  refine gx_aload_n 0 dX11_no_0 rfl rfl ?_
  refine gx_getR kf_RX11_27 dX11_no_1 (fun a1 => ?_)
  refine gx_iconst (1 : Int32) dX11_no_4 (by decide) ?_
  refine gx_dup2 dX11_no_5 rfl rfl ?_
  refine gx_iald dX11_no_6 (fun x2 => ?_)
  refine gx_iconst (1 : Int32) dX11_no_7 (by decide) ?_
  refine gx_iadd dX11_no_8 ?_
  refine gx_iast dX11_no_9 (fun h3 => ?_)
  refine gx_bipush (-3 : Int32) dX11_no_10 (by decide) ?_
  exact gx_iret dX11_no_12 rfl
theorem okX11_no {E : gx_Env} (d : Nat) {v0 : Nat} {h : gx_H} {r : Int32} {h1 : gx_H} (q : fX11_no v0 h = some (r, h1)) : gx_M E yX11_no cX11_no 1 (some .int) d 0 0 [.ref v0] h ((fun x : Int32 => some (.int x)) r) h1 := gx_meth (y := yX11_no) (cc := cX11_no) (nL := 1) (em := (fun x : Int32 => some (.int x))) (ini := false) [.ref v0] (by decide) (by simp [gx_sl]) (fun q => by cases q) (geX11_no v0 h) q
theorem dX11_full_0 : decode cX11_full 0 = .ok (.aload_n 0, 1) := by decide +kernel
theorem dX11_full_1 : decode cX11_full 1 = .ok (.getfield 27, 3) := by decide +kernel
theorem dX11_full_4 : decode cX11_full 4 = .ok (.iconst 2, 1) := by decide +kernel
theorem dX11_full_5 : decode cX11_full 5 = .ok (.dup2, 1) := by decide +kernel
theorem dX11_full_6 : decode cX11_full 6 = .ok (.iaload, 1) := by decide +kernel
theorem dX11_full_7 : decode cX11_full 7 = .ok (.iconst 1, 1) := by decide +kernel
theorem dX11_full_8 : decode cX11_full 8 = .ok (.iadd, 1) := by decide +kernel
theorem dX11_full_9 : decode cX11_full 9 = .ok (.iastore, 1) := by decide +kernel
theorem dX11_full_10 : decode cX11_full 10 = .ok (.bipush (-4), 2) := by decide +kernel
theorem dX11_full_12 : decode cX11_full 12 = .ok (.ireturn, 1) := by decide +kernel
def fX11_full (v0 : Nat) (h : gx_H) : Option (Int32 × gx_H) :=
  (gx_isO h v0 9).bind fun _ =>
  (gx_fR h v0 9 6).bind fun a1 =>
  (gx_aI 0 h a1 (2 : Int32)).bind fun x2 =>
  (gx_sI 0 h a1 (2 : Int32) (x2 + (1 : Int32))).bind fun h3 =>
  some ((-4 : Int32), h3)
set_option maxRecDepth 100000 in
set_option maxHeartbeats 4000000 in
theorem geX11_full {E : gx_Env} {d : Nat} (v0 : Nat) (h : gx_H) : gx_G E RX11 cX11_full 1 (some .int) false d 0 0 0 [some (.ref v0)] [] h (fun x : Int32 => some (.int x)) (fX11_full v0 h) := by
  unfold fX11_full
  refine gx_bind fun _ _ => ?_
  refine gx_aload_n 0 dX11_full_0 rfl rfl ?_
  refine gx_getR kf_RX11_27 dX11_full_1 (fun a1 => ?_)
  refine gx_iconst (2 : Int32) dX11_full_4 (by decide) ?_
  refine gx_dup2 dX11_full_5 rfl rfl ?_
  refine gx_iald dX11_full_6 (fun x2 => ?_)
  refine gx_iconst (1 : Int32) dX11_full_7 (by decide) ?_
  refine gx_iadd dX11_full_8 ?_
  refine gx_iast dX11_full_9 (fun h3 => ?_)
  refine gx_bipush (-4 : Int32) dX11_full_10 (by decide) ?_
  exact gx_iret dX11_full_12 rfl
theorem okX11_full {E : gx_Env} (d : Nat) {v0 : Nat} {h : gx_H} {r : Int32} {h1 : gx_H} (q : fX11_full v0 h = some (r, h1)) : gx_M E yX11_full cX11_full 1 (some .int) d 0 0 [.ref v0] h ((fun x : Int32 => some (.int x)) r) h1 := gx_meth (y := yX11_full) (cc := cX11_full) (nL := 1) (em := (fun x : Int32 => some (.int x))) (ini := false) [.ref v0] (by decide) (by simp [gx_sl]) (fun q => by cases q) (geX11_full v0 h) q
theorem dX11_copy_0 : decode cX11_copy 0 = .ok (.iconst 0, 1) := by decide +kernel
theorem dX11_copy_1 : decode cX11_copy 1 = .ok (.istore_n 3, 1) := by decide +kernel
theorem dX11_copy_2 : decode cX11_copy 2 = .ok (.iload_n 3, 1) := by decide +kernel
theorem dX11_copy_3 : decode cX11_copy 3 = .ok (.sipush 203, 3) := by decide +kernel
theorem dX11_copy_6 : decode cX11_copy 6 = .ok (.if_icmp .ge 25, 3) := by decide +kernel
theorem dX11_copy_9 : decode cX11_copy 9 = .ok (.aload_n 0, 1) := by decide +kernel
theorem dX11_copy_10 : decode cX11_copy 10 = .ok (.getfield 7, 3) := by decide +kernel
theorem dX11_copy_13 : decode cX11_copy 13 = .ok (.iload_n 2, 1) := by decide +kernel
theorem dX11_copy_14 : decode cX11_copy 14 = .ok (.iload_n 3, 1) := by decide +kernel
theorem dX11_copy_15 : decode cX11_copy 15 = .ok (.iadd, 1) := by decide +kernel
theorem dX11_copy_16 : decode cX11_copy 16 = .ok (.aload_n 0, 1) := by decide +kernel
theorem dX11_copy_17 : decode cX11_copy 17 = .ok (.getfield 7, 3) := by decide +kernel
theorem dX11_copy_20 : decode cX11_copy 20 = .ok (.iload_n 1, 1) := by decide +kernel
theorem dX11_copy_21 : decode cX11_copy 21 = .ok (.iload_n 3, 1) := by decide +kernel
theorem dX11_copy_22 : decode cX11_copy 22 = .ok (.iadd, 1) := by decide +kernel
theorem dX11_copy_23 : decode cX11_copy 23 = .ok (.iaload, 1) := by decide +kernel
theorem dX11_copy_24 : decode cX11_copy 24 = .ok (.iastore, 1) := by decide +kernel
theorem dX11_copy_25 : decode cX11_copy 25 = .ok (.iinc 3 1, 3) := by decide +kernel
theorem dX11_copy_28 : decode cX11_copy 28 = .ok (.goto (-26), 3) := by decide +kernel
theorem dX11_copy_31 : decode cX11_copy 31 = .ok (.return_, 1) := by decide +kernel
def bX11_copy_2 (k2 : Nat → Int32 → Int32 → Int32 → gx_H → Option (Unit × gx_H)) (v0 : Nat) (v1 : Int32) (v2 : Int32) (v3 : Int32) (h : gx_H) : Option (Unit × gx_H) :=
  if (203 : Int32) ≤ v3 then
    some ((), h)
  else
    (gx_fR h v0 9 0).bind fun a1 =>
    (gx_fR h v0 9 0).bind fun a2 =>
    (gx_aI 0 h a2 (v1 + v3)).bind fun x3 =>
    (gx_sI 0 h a1 (v2 + v3) x3).bind fun h4 =>
    k2 v0 v1 v2 (v3 + (1 : Int32)) h4
def fX11_copy_2 : Nat → Nat → Int32 → Int32 → Int32 → gx_H → Option (Unit × gx_H)
  | 0 => fun _ _ _ _ _ => none
  | n + 1 => bX11_copy_2 (fX11_copy_2 n)
def fX11_copy (v0 : Nat) (v1 : Int32) (v2 : Int32) (h : gx_H) : Option (Unit × gx_H) :=
  (gx_isO h v0 9).bind fun _ =>
  fX11_copy_2 gx_N v0 v1 v2 (0 : Int32) h
set_option maxRecDepth 100000 in
set_option maxHeartbeats 4000000 in
theorem gbX11_copy_2 {E : gx_Env} {d : Nat}  (k2 : Nat → Int32 → Int32 → Int32 → gx_H → Option (Unit × gx_H)) (hk2 : ∀ (v0 : Nat) (v1 : Int32) (v2 : Int32) (v3 : Int32) (h : gx_H), gx_G E RX11 cX11_copy 4 none false d 0 0 2 [some (.ref v0), some (.int v1), some (.int v2), some (.int v3)] [] h (fun _ : Unit => none) (k2 v0 v1 v2 v3 h))  : ∀ (v0 : Nat) (v1 : Int32) (v2 : Int32) (v3 : Int32) (h : gx_H), gx_G E RX11 cX11_copy 4 none false d 0 0 2 [some (.ref v0), some (.int v1), some (.int v2), some (.int v3)] [] h (fun _ : Unit => none) (bX11_copy_2 k2 v0 v1 v2 v3 h) := by
  intro v0 v1 v2 v3 h
  unfold bX11_copy_2
  refine gx_iload_n 3 dX11_copy_2 rfl rfl ?_
  refine gx_sipush (203 : Int32) dX11_copy_3 (by decide) ?_
  refine gx_icmp_ge 31 dX11_copy_6 (by decide) (fun _ => ?_) (fun _ => ?_)
  · exact gx_vret dX11_copy_31 rfl
  · refine gx_aload_n 0 dX11_copy_9 rfl rfl ?_
    refine gx_getR kf_RX11_7 dX11_copy_10 (fun a1 => ?_)
    refine gx_iload_n 2 dX11_copy_13 rfl rfl ?_
    refine gx_iload_n 3 dX11_copy_14 rfl rfl ?_
    refine gx_iadd dX11_copy_15 ?_
    refine gx_aload_n 0 dX11_copy_16 rfl rfl ?_
    refine gx_getR kf_RX11_7 dX11_copy_17 (fun a2 => ?_)
    refine gx_iload_n 1 dX11_copy_20 rfl rfl ?_
    refine gx_iload_n 3 dX11_copy_21 rfl rfl ?_
    refine gx_iadd dX11_copy_22 ?_
    refine gx_iald dX11_copy_23 (fun x3 => ?_)
    refine gx_iast dX11_copy_24 (fun h4 => ?_)
    refine gx_iinc (1 : Int32) [some (.ref v0), some (.int v1), some (.int v2), some (.int (v3 + (1 : Int32)))] dX11_copy_25 rfl (by decide) (by decide) rfl ?_
    refine gx_goto 2 dX11_copy_28 (by decide) ?_
    exact gx_sub (hk2 v0 v1 v2 (v3 + (1 : Int32)) h4) (And.intro rfl (And.intro rfl (And.intro rfl (And.intro rfl True.intro))))
set_option maxRecDepth 100000 in
set_option maxHeartbeats 4000000 in
theorem gX11_copy_2 {E : gx_Env} {d : Nat}  : ∀ (n : Nat) (v0 : Nat) (v1 : Int32) (v2 : Int32) (v3 : Int32) (h : gx_H), gx_G E RX11 cX11_copy 4 none false d 0 0 2 [some (.ref v0), some (.int v1), some (.int v2), some (.int v3)] [] h (fun _ : Unit => none) (fX11_copy_2 n v0 v1 v2 v3 h) := by
  intro n
  induction n with
  | zero => intro v0 v1 v2 v3 h; exact gx_none
  | succ n ih => exact gbX11_copy_2  (fX11_copy_2  n) ih
set_option maxRecDepth 100000 in
set_option maxHeartbeats 4000000 in
theorem geX11_copy {E : gx_Env} {d : Nat} (v0 : Nat) (v1 : Int32) (v2 : Int32) (h : gx_H) : gx_G E RX11 cX11_copy 4 none false d 0 0 0 [some (.ref v0), some (.int v1), some (.int v2), none] [] h (fun _ : Unit => none) (fX11_copy v0 v1 v2 h) := by
  unfold fX11_copy
  refine gx_bind fun _ _ => ?_
  refine gx_iconst (0 : Int32) dX11_copy_0 (by decide) ?_
  refine gx_istore_n 3 [some (.ref v0), some (.int v1), some (.int v2), some (.int (0 : Int32))] dX11_copy_1 rfl (by decide) rfl ?_
  exact gx_sub (gX11_copy_2 gx_N v0 v1 v2 (0 : Int32) h) (And.intro rfl (And.intro rfl (And.intro rfl (And.intro rfl True.intro))))
theorem okX11_copy {E : gx_Env} (d : Nat) {v0 : Nat} {v1 : Int32} {v2 : Int32} {h : gx_H} {r : Unit} {h1 : gx_H} (q : fX11_copy v0 v1 v2 h = some (r, h1)) : gx_M E yX11_copy cX11_copy 4 none d 0 0 [.ref v0, .int v1, .int v2] h ((fun _ : Unit => none) r) h1 := gx_meth (y := yX11_copy) (cc := cX11_copy) (nL := 4) (em := (fun _ : Unit => none)) (ini := false) [.ref v0, .int v1, .int v2] (by decide) (by simp [gx_sl]) (fun q => by cases q) (geX11_copy v0 v1 v2 h) q
theorem dX11_empties_0 : decode cX11_empties 0 = .ok (.iconst 0, 1) := by decide +kernel
theorem dX11_empties_1 : decode cX11_empties 1 = .ok (.istore_n 2, 1) := by decide +kernel
theorem dX11_empties_2 : decode cX11_empties 2 = .ok (.iload_n 2, 1) := by decide +kernel
theorem dX11_empties_3 : decode cX11_empties 3 = .ok (.sipush 203, 3) := by decide +kernel
theorem dX11_empties_6 : decode cX11_empties 6 = .ok (.if_icmp .ge 18, 3) := by decide +kernel
theorem dX11_empties_9 : decode cX11_empties 9 = .ok (.aload_n 0, 1) := by decide +kernel
theorem dX11_empties_10 : decode cX11_empties 10 = .ok (.getfield 7, 3) := by decide +kernel
theorem dX11_empties_13 : decode cX11_empties 13 = .ok (.iload_n 1, 1) := by decide +kernel
theorem dX11_empties_14 : decode cX11_empties 14 = .ok (.iload_n 2, 1) := by decide +kernel
theorem dX11_empties_15 : decode cX11_empties 15 = .ok (.iadd, 1) := by decide +kernel
theorem dX11_empties_16 : decode cX11_empties 16 = .ok (.iconst 0, 1) := by decide +kernel
theorem dX11_empties_17 : decode cX11_empties 17 = .ok (.iastore, 1) := by decide +kernel
theorem dX11_empties_18 : decode cX11_empties 18 = .ok (.iinc 2 1, 3) := by decide +kernel
theorem dX11_empties_21 : decode cX11_empties 21 = .ok (.goto (-19), 3) := by decide +kernel
theorem dX11_empties_24 : decode cX11_empties 24 = .ok (.return_, 1) := by decide +kernel
def bX11_empties_2 (k2 : Nat → Int32 → Int32 → gx_H → Option (Unit × gx_H)) (v0 : Nat) (v1 : Int32) (v2 : Int32) (h : gx_H) : Option (Unit × gx_H) :=
  if (203 : Int32) ≤ v2 then
    some ((), h)
  else
    (gx_fR h v0 9 0).bind fun a1 =>
    (gx_sI 0 h a1 (v1 + v2) (0 : Int32)).bind fun h2 =>
    k2 v0 v1 (v2 + (1 : Int32)) h2
def fX11_empties_2 : Nat → Nat → Int32 → Int32 → gx_H → Option (Unit × gx_H)
  | 0 => fun _ _ _ _ => none
  | n + 1 => bX11_empties_2 (fX11_empties_2 n)
def fX11_empties (v0 : Nat) (v1 : Int32) (h : gx_H) : Option (Unit × gx_H) :=
  (gx_isO h v0 9).bind fun _ =>
  fX11_empties_2 gx_N v0 v1 (0 : Int32) h
set_option maxRecDepth 100000 in
set_option maxHeartbeats 4000000 in
theorem gbX11_empties_2 {E : gx_Env} {d : Nat}  (k2 : Nat → Int32 → Int32 → gx_H → Option (Unit × gx_H)) (hk2 : ∀ (v0 : Nat) (v1 : Int32) (v2 : Int32) (h : gx_H), gx_G E RX11 cX11_empties 3 none false d 0 0 2 [some (.ref v0), some (.int v1), some (.int v2)] [] h (fun _ : Unit => none) (k2 v0 v1 v2 h))  : ∀ (v0 : Nat) (v1 : Int32) (v2 : Int32) (h : gx_H), gx_G E RX11 cX11_empties 3 none false d 0 0 2 [some (.ref v0), some (.int v1), some (.int v2)] [] h (fun _ : Unit => none) (bX11_empties_2 k2 v0 v1 v2 h) := by
  intro v0 v1 v2 h
  unfold bX11_empties_2
  refine gx_iload_n 2 dX11_empties_2 rfl rfl ?_
  refine gx_sipush (203 : Int32) dX11_empties_3 (by decide) ?_
  refine gx_icmp_ge 24 dX11_empties_6 (by decide) (fun _ => ?_) (fun _ => ?_)
  · exact gx_vret dX11_empties_24 rfl
  · refine gx_aload_n 0 dX11_empties_9 rfl rfl ?_
    refine gx_getR kf_RX11_7 dX11_empties_10 (fun a1 => ?_)
    refine gx_iload_n 1 dX11_empties_13 rfl rfl ?_
    refine gx_iload_n 2 dX11_empties_14 rfl rfl ?_
    refine gx_iadd dX11_empties_15 ?_
    refine gx_iconst (0 : Int32) dX11_empties_16 (by decide) ?_
    refine gx_iast dX11_empties_17 (fun h2 => ?_)
    refine gx_iinc (1 : Int32) [some (.ref v0), some (.int v1), some (.int (v2 + (1 : Int32)))] dX11_empties_18 rfl (by decide) (by decide) rfl ?_
    refine gx_goto 2 dX11_empties_21 (by decide) ?_
    exact gx_sub (hk2 v0 v1 (v2 + (1 : Int32)) h2) (And.intro rfl (And.intro rfl (And.intro rfl True.intro)))
set_option maxRecDepth 100000 in
set_option maxHeartbeats 4000000 in
theorem gX11_empties_2 {E : gx_Env} {d : Nat}  : ∀ (n : Nat) (v0 : Nat) (v1 : Int32) (v2 : Int32) (h : gx_H), gx_G E RX11 cX11_empties 3 none false d 0 0 2 [some (.ref v0), some (.int v1), some (.int v2)] [] h (fun _ : Unit => none) (fX11_empties_2 n v0 v1 v2 h) := by
  intro n
  induction n with
  | zero => intro v0 v1 v2 h; exact gx_none
  | succ n ih => exact gbX11_empties_2  (fX11_empties_2  n) ih
set_option maxRecDepth 100000 in
set_option maxHeartbeats 4000000 in
theorem geX11_empties {E : gx_Env} {d : Nat} (v0 : Nat) (v1 : Int32) (h : gx_H) : gx_G E RX11 cX11_empties 3 none false d 0 0 0 [some (.ref v0), some (.int v1), none] [] h (fun _ : Unit => none) (fX11_empties v0 v1 h) := by
  unfold fX11_empties
  refine gx_bind fun _ _ => ?_
  refine gx_iconst (0 : Int32) dX11_empties_0 (by decide) ?_
  refine gx_istore_n 2 [some (.ref v0), some (.int v1), some (.int (0 : Int32))] dX11_empties_1 rfl (by decide) rfl ?_
  exact gx_sub (gX11_empties_2 gx_N v0 v1 (0 : Int32) h) (And.intro rfl (And.intro rfl (And.intro rfl True.intro)))
theorem okX11_empties {E : gx_Env} (d : Nat) {v0 : Nat} {v1 : Int32} {h : gx_H} {r : Unit} {h1 : gx_H} (q : fX11_empties v0 v1 h = some (r, h1)) : gx_M E yX11_empties cX11_empties 3 none d 0 0 [.ref v0, .int v1] h ((fun _ : Unit => none) r) h1 := gx_meth (y := yX11_empties) (cc := cX11_empties) (nL := 3) (em := (fun _ : Unit => none)) (ini := false) [.ref v0, .int v1] (by decide) (by simp [gx_sl]) (fun q => by cases q) (geX11_empties v0 v1 h) q
