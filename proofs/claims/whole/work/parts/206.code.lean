theorem dX11_isPlayer_0 : decode cX11_isPlayer 0 = .ok (.iload_n 1, 1) := by decide +kernel
theorem dX11_isPlayer_1 : decode cX11_isPlayer 1 = .ok (.i2l, 1) := by decide +kernel
theorem dX11_isPlayer_2 : decode cX11_isPlayer 2 = .ok (.lconst 0, 1) := by decide +kernel
theorem dX11_isPlayer_3 : decode cX11_isPlayer 3 = .ok (.aload_n 0, 1) := by decide +kernel
theorem dX11_isPlayer_4 : decode cX11_isPlayer 4 = .ok (.getfield 7, 3) := by decide +kernel
theorem dX11_isPlayer_7 : decode cX11_isPlayer 7 = .ok (.iconst 3, 1) := by decide +kernel
theorem dX11_isPlayer_8 : decode cX11_isPlayer 8 = .ok (.iaload, 1) := by decide +kernel
theorem dX11_isPlayer_9 : decode cX11_isPlayer 9 = .ok (.iconst 1, 1) := by decide +kernel
theorem dX11_isPlayer_10 : decode cX11_isPlayer 10 = .ok (.isub, 1) := by decide +kernel
theorem dX11_isPlayer_11 : decode cX11_isPlayer 11 = .ok (.i2l, 1) := by decide +kernel
theorem dX11_isPlayer_12 : decode cX11_isPlayer 12 = .ok (.invokestatic 39, 3) := by decide +kernel
theorem dX11_isPlayer_15 : decode cX11_isPlayer 15 = .ok (.ireturn, 1) := by decide +kernel
def fX11_isPlayer (v0 : Nat) (v1 : Int32) (h : gx_H) : Option (Int32 × gx_H) :=
  (gx_isO h v0 9).bind fun _ =>
  (gx_fR h v0 9 0).bind fun a1 =>
  (gx_aI 0 h a1 (3 : Int32)).bind fun x2 =>
  gx_bd (fX11_in ((v1).toInt64) (0 : Int64) (((x2 - (1 : Int32))).toInt64) h) fun x4 h3 =>
  gx_ret .boolean x4 h3
set_option maxRecDepth 100000 in
set_option maxHeartbeats 4000000 in
theorem geX11_isPlayer {E : gx_Env} {d : Nat} (v0 : Nat) (v1 : Int32) (h : gx_H) : gx_G E RX11 cX11_isPlayer 2 (some .boolean) false (d + 1) 0 0 0 [some (.ref v0), some (.int v1)] [] h (fun x : Int32 => some (.int x)) (fX11_isPlayer v0 v1 h) := by
  unfold fX11_isPlayer
  refine gx_bind fun _ _ => ?_
  refine gx_iload_n 1 dX11_isPlayer_0 rfl rfl ?_
  refine gx_i2l dX11_isPlayer_1 ?_
  refine gx_lconst (0 : Int64) dX11_isPlayer_2 (by decide) ?_
  refine gx_aload_n 0 dX11_isPlayer_3 rfl rfl ?_
  refine gx_getR kf_RX11_7 dX11_isPlayer_4 (fun a1 => ?_)
  refine gx_iconst (3 : Int32) dX11_isPlayer_7 (by decide) ?_
  refine gx_iald dX11_isPlayer_8 (fun x2 => ?_)
  refine gx_iconst (1 : Int32) dX11_isPlayer_9 (by decide) ?_
  refine gx_isub dX11_isPlayer_10 ?_
  refine gx_i2l dX11_isPlayer_11 ?_
  refine gx_callS (bc := 0) (bs := 0) (mc := 0) (ms := 0) (em' := (fun x : Int32 => some (.int x))) [.long ((v1).toInt64), .long (0 : Int64), .long (((x2 - (1 : Int32))).toInt64)] kc_RX11_39 dX11_isPlayer_12 rfl rfl (gx_w8 rfl) (fun _ _ q => okX11_in d q) (fun x4 h3 => ?_)
  exact gx_zret dX11_isPlayer_15 rfl
theorem okX11_isPlayer {E : gx_Env} (d : Nat) {v0 : Nat} {v1 : Int32} {h : gx_H} {r : Int32} {h1 : gx_H} (q : fX11_isPlayer v0 v1 h = some (r, h1)) : gx_M E yX11_isPlayer cX11_isPlayer 2 (some .boolean) (d + 1) 0 0 [.ref v0, .int v1] h ((fun x : Int32 => some (.int x)) r) h1 := gx_meth (y := yX11_isPlayer) (cc := cX11_isPlayer) (nL := 2) (em := (fun x : Int32 => some (.int x))) (ini := false) [.ref v0, .int v1] (by decide) (by simp [gx_sl]) (fun q => by cases q) (geX11_isPlayer v0 v1 h) q
theorem dX11_isLink_0 : decode cX11_isLink 0 = .ok (.iload_n 1, 1) := by decide +kernel
theorem dX11_isLink_1 : decode cX11_isLink 1 = .ok (.i2l, 1) := by decide +kernel
theorem dX11_isLink_2 : decode cX11_isLink 2 = .ok (.lconst 0, 1) := by decide +kernel
theorem dX11_isLink_3 : decode cX11_isLink 3 = .ok (.aload_n 0, 1) := by decide +kernel
theorem dX11_isLink_4 : decode cX11_isLink 4 = .ok (.getfield 7, 3) := by decide +kernel
theorem dX11_isLink_7 : decode cX11_isLink 7 = .ok (.iconst 2, 1) := by decide +kernel
theorem dX11_isLink_8 : decode cX11_isLink 8 = .ok (.iaload, 1) := by decide +kernel
theorem dX11_isLink_9 : decode cX11_isLink 9 = .ok (.iconst 1, 1) := by decide +kernel
theorem dX11_isLink_10 : decode cX11_isLink 10 = .ok (.isub, 1) := by decide +kernel
theorem dX11_isLink_11 : decode cX11_isLink 11 = .ok (.i2l, 1) := by decide +kernel
theorem dX11_isLink_12 : decode cX11_isLink 12 = .ok (.invokestatic 39, 3) := by decide +kernel
theorem dX11_isLink_15 : decode cX11_isLink 15 = .ok (.ireturn, 1) := by decide +kernel
def fX11_isLink (v0 : Nat) (v1 : Int32) (h : gx_H) : Option (Int32 × gx_H) :=
  (gx_isO h v0 9).bind fun _ =>
  (gx_fR h v0 9 0).bind fun a1 =>
  (gx_aI 0 h a1 (2 : Int32)).bind fun x2 =>
  gx_bd (fX11_in ((v1).toInt64) (0 : Int64) (((x2 - (1 : Int32))).toInt64) h) fun x4 h3 =>
  gx_ret .boolean x4 h3
set_option maxRecDepth 100000 in
set_option maxHeartbeats 4000000 in
theorem geX11_isLink {E : gx_Env} {d : Nat} (v0 : Nat) (v1 : Int32) (h : gx_H) : gx_G E RX11 cX11_isLink 2 (some .boolean) false (d + 1) 0 0 0 [some (.ref v0), some (.int v1)] [] h (fun x : Int32 => some (.int x)) (fX11_isLink v0 v1 h) := by
  unfold fX11_isLink
  refine gx_bind fun _ _ => ?_
  refine gx_iload_n 1 dX11_isLink_0 rfl rfl ?_
  refine gx_i2l dX11_isLink_1 ?_
  refine gx_lconst (0 : Int64) dX11_isLink_2 (by decide) ?_
  refine gx_aload_n 0 dX11_isLink_3 rfl rfl ?_
  refine gx_getR kf_RX11_7 dX11_isLink_4 (fun a1 => ?_)
  refine gx_iconst (2 : Int32) dX11_isLink_7 (by decide) ?_
  refine gx_iald dX11_isLink_8 (fun x2 => ?_)
  refine gx_iconst (1 : Int32) dX11_isLink_9 (by decide) ?_
  refine gx_isub dX11_isLink_10 ?_
  refine gx_i2l dX11_isLink_11 ?_
  refine gx_callS (bc := 0) (bs := 0) (mc := 0) (ms := 0) (em' := (fun x : Int32 => some (.int x))) [.long ((v1).toInt64), .long (0 : Int64), .long (((x2 - (1 : Int32))).toInt64)] kc_RX11_39 dX11_isLink_12 rfl rfl (gx_w8 rfl) (fun _ _ q => okX11_in d q) (fun x4 h3 => ?_)
  exact gx_zret dX11_isLink_15 rfl
theorem okX11_isLink {E : gx_Env} (d : Nat) {v0 : Nat} {v1 : Int32} {h : gx_H} {r : Int32} {h1 : gx_H} (q : fX11_isLink v0 v1 h = some (r, h1)) : gx_M E yX11_isLink cX11_isLink 2 (some .boolean) (d + 1) 0 0 [.ref v0, .int v1] h ((fun x : Int32 => some (.int x)) r) h1 := gx_meth (y := yX11_isLink) (cc := cX11_isLink) (nL := 2) (em := (fun x : Int32 => some (.int x))) (ini := false) [.ref v0, .int v1] (by decide) (by simp [gx_sl]) (fun q => by cases q) (geX11_isLink v0 v1 h) q
theorem dX11_isSide_0 : decode cX11_isSide 0 = .ok (.iload_n 1, 1) := by decide +kernel
theorem dX11_isSide_1 : decode cX11_isSide 1 = .ok (.i2l, 1) := by decide +kernel
theorem dX11_isSide_2 : decode cX11_isSide 2 = .ok (.lconst 1, 1) := by decide +kernel
theorem dX11_isSide_3 : decode cX11_isSide 3 = .ok (.aload_n 0, 1) := by decide +kernel
theorem dX11_isSide_4 : decode cX11_isSide 4 = .ok (.getfield 7, 3) := by decide +kernel
theorem dX11_isSide_7 : decode cX11_isSide 7 = .ok (.iconst 1, 1) := by decide +kernel
theorem dX11_isSide_8 : decode cX11_isSide 8 = .ok (.iaload, 1) := by decide +kernel
theorem dX11_isSide_9 : decode cX11_isSide 9 = .ok (.i2l, 1) := by decide +kernel
theorem dX11_isSide_10 : decode cX11_isSide 10 = .ok (.invokestatic 39, 3) := by decide +kernel
theorem dX11_isSide_13 : decode cX11_isSide 13 = .ok (.ireturn, 1) := by decide +kernel
def fX11_isSide (v0 : Nat) (v1 : Int32) (h : gx_H) : Option (Int32 × gx_H) :=
  (gx_isO h v0 9).bind fun _ =>
  (gx_fR h v0 9 0).bind fun a1 =>
  (gx_aI 0 h a1 (1 : Int32)).bind fun x2 =>
  gx_bd (fX11_in ((v1).toInt64) (1 : Int64) ((x2).toInt64) h) fun x4 h3 =>
  gx_ret .boolean x4 h3
set_option maxRecDepth 100000 in
set_option maxHeartbeats 4000000 in
theorem geX11_isSide {E : gx_Env} {d : Nat} (v0 : Nat) (v1 : Int32) (h : gx_H) : gx_G E RX11 cX11_isSide 2 (some .boolean) false (d + 1) 0 0 0 [some (.ref v0), some (.int v1)] [] h (fun x : Int32 => some (.int x)) (fX11_isSide v0 v1 h) := by
  unfold fX11_isSide
  refine gx_bind fun _ _ => ?_
  refine gx_iload_n 1 dX11_isSide_0 rfl rfl ?_
  refine gx_i2l dX11_isSide_1 ?_
  refine gx_lconst (1 : Int64) dX11_isSide_2 (by decide) ?_
  refine gx_aload_n 0 dX11_isSide_3 rfl rfl ?_
  refine gx_getR kf_RX11_7 dX11_isSide_4 (fun a1 => ?_)
  refine gx_iconst (1 : Int32) dX11_isSide_7 (by decide) ?_
  refine gx_iald dX11_isSide_8 (fun x2 => ?_)
  refine gx_i2l dX11_isSide_9 ?_
  refine gx_callS (bc := 0) (bs := 0) (mc := 0) (ms := 0) (em' := (fun x : Int32 => some (.int x))) [.long ((v1).toInt64), .long (1 : Int64), .long ((x2).toInt64)] kc_RX11_39 dX11_isSide_10 rfl rfl (gx_w8 rfl) (fun _ _ q => okX11_in d q) (fun x4 h3 => ?_)
  exact gx_zret dX11_isSide_13 rfl
theorem okX11_isSide {E : gx_Env} (d : Nat) {v0 : Nat} {v1 : Int32} {h : gx_H} {r : Int32} {h1 : gx_H} (q : fX11_isSide v0 v1 h = some (r, h1)) : gx_M E yX11_isSide cX11_isSide 2 (some .boolean) (d + 1) 0 0 [.ref v0, .int v1] h ((fun x : Int32 => some (.int x)) r) h1 := gx_meth (y := yX11_isSide) (cc := cX11_isSide) (nL := 2) (em := (fun x : Int32 => some (.int x))) (ini := false) [.ref v0, .int v1] (by decide) (by simp [gx_sl]) (fun q => by cases q) (geX11_isSide v0 v1 h) q
theorem dX11_isSquare_0 : decode cX11_isSquare 0 = .ok (.iload_n 1, 1) := by decide +kernel
theorem dX11_isSquare_1 : decode cX11_isSquare 1 = .ok (.i2l, 1) := by decide +kernel
theorem dX11_isSquare_2 : decode cX11_isSquare 2 = .ok (.lconst 0, 1) := by decide +kernel
theorem dX11_isSquare_3 : decode cX11_isSquare 3 = .ok (.aload_n 0, 1) := by decide +kernel
theorem dX11_isSquare_4 : decode cX11_isSquare 4 = .ok (.getfield 7, 3) := by decide +kernel
theorem dX11_isSquare_7 : decode cX11_isSquare 7 = .ok (.iconst 0, 1) := by decide +kernel
theorem dX11_isSquare_8 : decode cX11_isSquare 8 = .ok (.iaload, 1) := by decide +kernel
theorem dX11_isSquare_9 : decode cX11_isSquare 9 = .ok (.i2l, 1) := by decide +kernel
theorem dX11_isSquare_10 : decode cX11_isSquare 10 = .ok (.invokestatic 39, 3) := by decide +kernel
theorem dX11_isSquare_13 : decode cX11_isSquare 13 = .ok (.ireturn, 1) := by decide +kernel
def fX11_isSquare (v0 : Nat) (v1 : Int32) (h : gx_H) : Option (Int32 × gx_H) :=
  (gx_isO h v0 9).bind fun _ =>
  (gx_fR h v0 9 0).bind fun a1 =>
  (gx_aI 0 h a1 (0 : Int32)).bind fun x2 =>
  gx_bd (fX11_in ((v1).toInt64) (0 : Int64) ((x2).toInt64) h) fun x4 h3 =>
  gx_ret .boolean x4 h3
set_option maxRecDepth 100000 in
set_option maxHeartbeats 4000000 in
theorem geX11_isSquare {E : gx_Env} {d : Nat} (v0 : Nat) (v1 : Int32) (h : gx_H) : gx_G E RX11 cX11_isSquare 2 (some .boolean) false (d + 1) 0 0 0 [some (.ref v0), some (.int v1)] [] h (fun x : Int32 => some (.int x)) (fX11_isSquare v0 v1 h) := by
  unfold fX11_isSquare
  refine gx_bind fun _ _ => ?_
  refine gx_iload_n 1 dX11_isSquare_0 rfl rfl ?_
  refine gx_i2l dX11_isSquare_1 ?_
  refine gx_lconst (0 : Int64) dX11_isSquare_2 (by decide) ?_
  refine gx_aload_n 0 dX11_isSquare_3 rfl rfl ?_
  refine gx_getR kf_RX11_7 dX11_isSquare_4 (fun a1 => ?_)
  refine gx_iconst (0 : Int32) dX11_isSquare_7 (by decide) ?_
  refine gx_iald dX11_isSquare_8 (fun x2 => ?_)
  refine gx_i2l dX11_isSquare_9 ?_
  refine gx_callS (bc := 0) (bs := 0) (mc := 0) (ms := 0) (em' := (fun x : Int32 => some (.int x))) [.long ((v1).toInt64), .long (0 : Int64), .long ((x2).toInt64)] kc_RX11_39 dX11_isSquare_10 rfl rfl (gx_w8 rfl) (fun _ _ q => okX11_in d q) (fun x4 h3 => ?_)
  exact gx_zret dX11_isSquare_13 rfl
theorem okX11_isSquare {E : gx_Env} (d : Nat) {v0 : Nat} {v1 : Int32} {h : gx_H} {r : Int32} {h1 : gx_H} (q : fX11_isSquare v0 v1 h = some (r, h1)) : gx_M E yX11_isSquare cX11_isSquare 2 (some .boolean) (d + 1) 0 0 [.ref v0, .int v1] h ((fun x : Int32 => some (.int x)) r) h1 := gx_meth (y := yX11_isSquare) (cc := cX11_isSquare) (nL := 2) (em := (fun x : Int32 => some (.int x))) (ini := false) [.ref v0, .int v1] (by decide) (by simp [gx_sl]) (fun q => by cases q) (geX11_isSquare v0 v1 h) q
theorem dX11_plain_0 : decode cX11_plain 0 = .ok (.iload_n 1, 1) := by decide +kernel
theorem dX11_plain_1 : decode cX11_plain 1 = .ok (.iload_n 2, 1) := by decide +kernel
theorem dX11_plain_2 : decode cX11_plain 2 = .ok (.iadd, 1) := by decide +kernel
theorem dX11_plain_3 : decode cX11_plain 3 = .ok (.iload_n 0, 1) := by decide +kernel
theorem dX11_plain_4 : decode cX11_plain 4 = .ok (.if_icmp .le 7, 3) := by decide +kernel
theorem dX11_plain_7 : decode cX11_plain 7 = .ok (.iload_n 1, 1) := by decide +kernel
theorem dX11_plain_8 : decode cX11_plain 8 = .ok (.goto 6, 3) := by decide +kernel
theorem dX11_plain_11 : decode cX11_plain 11 = .ok (.iload_n 1, 1) := by decide +kernel
theorem dX11_plain_12 : decode cX11_plain 12 = .ok (.iload_n 2, 1) := by decide +kernel
theorem dX11_plain_13 : decode cX11_plain 13 = .ok (.iadd, 1) := by decide +kernel
theorem dX11_plain_14 : decode cX11_plain 14 = .ok (.ireturn, 1) := by decide +kernel
def fX11_plain_14 (s0 : Int32) (h : gx_H) : Option (Int32 × gx_H) :=
  some (s0, h)
def fX11_plain (v0 : Int32) (v1 : Int32) (v2 : Int32) (h : gx_H) : Option (Int32 × gx_H) :=
  if (v1 + v2) ≤ v0 then
    fX11_plain_14 (v1 + v2) h
  else
    fX11_plain_14 v1 h
set_option maxRecDepth 100000 in
set_option maxHeartbeats 4000000 in
theorem gX11_plain_14 {E : gx_Env} {d : Nat}  : ∀ (s0 : Int32) (h : gx_H), gx_G E RX11 cX11_plain 3 (some .int) false d 0 0 14 [none, none, none] [.int s0] h (fun x : Int32 => some (.int x)) (fX11_plain_14 s0 h) := by
  intro s0 h
  unfold fX11_plain_14
  exact gx_iret dX11_plain_14 rfl
set_option maxRecDepth 100000 in
set_option maxHeartbeats 4000000 in
theorem geX11_plain {E : gx_Env} {d : Nat} (v0 : Int32) (v1 : Int32) (v2 : Int32) (h : gx_H) : gx_G E RX11 cX11_plain 3 (some .int) false d 0 0 0 [some (.int v0), some (.int v1), some (.int v2)] [] h (fun x : Int32 => some (.int x)) (fX11_plain v0 v1 v2 h) := by
  unfold fX11_plain
  refine gx_iload_n 1 dX11_plain_0 rfl rfl ?_
  refine gx_iload_n 2 dX11_plain_1 rfl rfl ?_
  refine gx_iadd dX11_plain_2 ?_
  refine gx_iload_n 0 dX11_plain_3 rfl rfl ?_
  refine gx_icmp_le 11 dX11_plain_4 (by decide) (fun _ => ?_) (fun _ => ?_)
  · refine gx_iload_n 1 dX11_plain_11 rfl rfl ?_
    refine gx_iload_n 2 dX11_plain_12 rfl rfl ?_
    refine gx_iadd dX11_plain_13 ?_
    exact gx_sub (gX11_plain_14 (v1 + v2) h) True.intro
  · refine gx_iload_n 1 dX11_plain_7 rfl rfl ?_
    refine gx_goto 14 dX11_plain_8 (by decide) ?_
    exact gx_sub (gX11_plain_14 v1 h) True.intro
theorem okX11_plain {E : gx_Env} (d : Nat) {v0 : Int32} {v1 : Int32} {v2 : Int32} {h : gx_H} {r : Int32} {h1 : gx_H} (q : fX11_plain v0 v1 v2 h = some (r, h1)) : gx_M E yX11_plain cX11_plain 3 (some .int) d 0 0 [.int v0, .int v1, .int v2] h ((fun x : Int32 => some (.int x)) r) h1 := gx_meth (y := yX11_plain) (cc := cX11_plain) (nL := 3) (em := (fun x : Int32 => some (.int x))) (ini := false) [.int v0, .int v1, .int v2] (by decide) (by simp [gx_sl]) (fun q => by cases q) (geX11_plain v0 v1 v2 h) q
theorem dX11_timid_0 : decode cX11_timid 0 = .ok (.iload_n 0, 1) := by decide +kernel
theorem dX11_timid_1 : decode cX11_timid 1 = .ok (.iload_n 1, 1) := by decide +kernel
theorem dX11_timid_2 : decode cX11_timid 2 = .ok (.iload_n 2, 1) := by decide +kernel
theorem dX11_timid_3 : decode cX11_timid 3 = .ok (.bipush 6, 2) := by decide +kernel
theorem dX11_timid_5 : decode cX11_timid 5 = .ok (.if_icmp .ne 7, 3) := by decide +kernel
theorem dX11_timid_8 : decode cX11_timid 8 = .ok (.iconst 3, 1) := by decide +kernel
theorem dX11_timid_9 : decode cX11_timid 9 = .ok (.goto 4, 3) := by decide +kernel
theorem dX11_timid_12 : decode cX11_timid 12 = .ok (.iload_n 2, 1) := by decide +kernel
theorem dX11_timid_13 : decode cX11_timid 13 = .ok (.invokestatic 43, 3) := by decide +kernel
theorem dX11_timid_16 : decode cX11_timid 16 = .ok (.ireturn, 1) := by decide +kernel
def fX11_timid_13 (s0 : Int32) (s1 : Int32) (s2 : Int32) (h : gx_H) : Option (Int32 × gx_H) :=
  gx_bd (fX11_plain s0 s1 s2 h) fun x2 h1 =>
  some (x2, h1)
def fX11_timid (v0 : Int32) (v1 : Int32) (v2 : Int32) (h : gx_H) : Option (Int32 × gx_H) :=
  if v2 = (6 : Int32) then
    fX11_timid_13 v0 v1 (3 : Int32) h
  else
    fX11_timid_13 v0 v1 v2 h
set_option maxRecDepth 100000 in
set_option maxHeartbeats 4000000 in
theorem gX11_timid_13 {E : gx_Env} {d : Nat}  : ∀ (s0 : Int32) (s1 : Int32) (s2 : Int32) (h : gx_H), gx_G E RX11 cX11_timid 3 (some .int) false (d + 1) 0 0 13 [none, none, none] [.int s2, .int s1, .int s0] h (fun x : Int32 => some (.int x)) (fX11_timid_13 s0 s1 s2 h) := by
  intro s0 s1 s2 h
  unfold fX11_timid_13
  refine gx_callS (bc := 0) (bs := 0) (mc := 0) (ms := 0) (em' := (fun x : Int32 => some (.int x))) [.int s0, .int s1, .int s2] kc_RX11_43 dX11_timid_13 rfl rfl (gx_w8 rfl) (fun _ _ q => okX11_plain d q) (fun x2 h1 => ?_)
  exact gx_iret dX11_timid_16 rfl
set_option maxRecDepth 100000 in
set_option maxHeartbeats 4000000 in
theorem geX11_timid {E : gx_Env} {d : Nat} (v0 : Int32) (v1 : Int32) (v2 : Int32) (h : gx_H) : gx_G E RX11 cX11_timid 3 (some .int) false (d + 1) 0 0 0 [some (.int v0), some (.int v1), some (.int v2)] [] h (fun x : Int32 => some (.int x)) (fX11_timid v0 v1 v2 h) := by
  unfold fX11_timid
  refine gx_iload_n 0 dX11_timid_0 rfl rfl ?_
  refine gx_iload_n 1 dX11_timid_1 rfl rfl ?_
  refine gx_iload_n 2 dX11_timid_2 rfl rfl ?_
  refine gx_bipush (6 : Int32) dX11_timid_3 (by decide) ?_
  refine gx_icmp_ne 12 dX11_timid_5 (by decide) (fun _ => ?_) (fun _ => ?_)
  · refine gx_iload_n 2 dX11_timid_12 rfl rfl ?_
    exact gx_sub (gX11_timid_13 v0 v1 v2 h) True.intro
  · refine gx_iconst (3 : Int32) dX11_timid_8 (by decide) ?_
    refine gx_goto 13 dX11_timid_9 (by decide) ?_
    exact gx_sub (gX11_timid_13 v0 v1 (3 : Int32) h) True.intro
theorem okX11_timid {E : gx_Env} (d : Nat) {v0 : Int32} {v1 : Int32} {v2 : Int32} {h : gx_H} {r : Int32} {h1 : gx_H} (q : fX11_timid v0 v1 v2 h = some (r, h1)) : gx_M E yX11_timid cX11_timid 3 (some .int) (d + 1) 0 0 [.int v0, .int v1, .int v2] h ((fun x : Int32 => some (.int x)) r) h1 := gx_meth (y := yX11_timid) (cc := cX11_timid) (nL := 3) (em := (fun x : Int32 => some (.int x))) (ini := false) [.int v0, .int v1, .int v2] (by decide) (by simp [gx_sl]) (fun q => by cases q) (geX11_timid v0 v1 v2 h) q
theorem dX11_cheat_0 : decode cX11_cheat 0 = .ok (.iload_n 0, 1) := by decide +kernel
theorem dX11_cheat_1 : decode cX11_cheat 1 = .ok (.iload_n 1, 1) := by decide +kernel
theorem dX11_cheat_2 : decode cX11_cheat 2 = .ok (.iload_n 2, 1) := by decide +kernel
theorem dX11_cheat_3 : decode cX11_cheat 3 = .ok (.iconst 1, 1) := by decide +kernel
theorem dX11_cheat_4 : decode cX11_cheat 4 = .ok (.if_icmp .ne 7, 3) := by decide +kernel
theorem dX11_cheat_7 : decode cX11_cheat 7 = .ok (.iconst 2, 1) := by decide +kernel
theorem dX11_cheat_8 : decode cX11_cheat 8 = .ok (.goto 4, 3) := by decide +kernel
theorem dX11_cheat_11 : decode cX11_cheat 11 = .ok (.iload_n 2, 1) := by decide +kernel
theorem dX11_cheat_12 : decode cX11_cheat 12 = .ok (.invokestatic 43, 3) := by decide +kernel
theorem dX11_cheat_15 : decode cX11_cheat 15 = .ok (.ireturn, 1) := by decide +kernel
def fX11_cheat_12 (s0 : Int32) (s1 : Int32) (s2 : Int32) (h : gx_H) : Option (Int32 × gx_H) :=
  gx_bd (fX11_plain s0 s1 s2 h) fun x2 h1 =>
  some (x2, h1)
def fX11_cheat (v0 : Int32) (v1 : Int32) (v2 : Int32) (h : gx_H) : Option (Int32 × gx_H) :=
  if v2 = (1 : Int32) then
    fX11_cheat_12 v0 v1 (2 : Int32) h
  else
    fX11_cheat_12 v0 v1 v2 h
set_option maxRecDepth 100000 in
set_option maxHeartbeats 4000000 in
theorem gX11_cheat_12 {E : gx_Env} {d : Nat}  : ∀ (s0 : Int32) (s1 : Int32) (s2 : Int32) (h : gx_H), gx_G E RX11 cX11_cheat 3 (some .int) false (d + 1) 0 0 12 [none, none, none] [.int s2, .int s1, .int s0] h (fun x : Int32 => some (.int x)) (fX11_cheat_12 s0 s1 s2 h) := by
  intro s0 s1 s2 h
  unfold fX11_cheat_12
  refine gx_callS (bc := 0) (bs := 0) (mc := 0) (ms := 0) (em' := (fun x : Int32 => some (.int x))) [.int s0, .int s1, .int s2] kc_RX11_43 dX11_cheat_12 rfl rfl (gx_w8 rfl) (fun _ _ q => okX11_plain d q) (fun x2 h1 => ?_)
  exact gx_iret dX11_cheat_15 rfl
set_option maxRecDepth 100000 in
set_option maxHeartbeats 4000000 in
theorem geX11_cheat {E : gx_Env} {d : Nat} (v0 : Int32) (v1 : Int32) (v2 : Int32) (h : gx_H) : gx_G E RX11 cX11_cheat 3 (some .int) false (d + 1) 0 0 0 [some (.int v0), some (.int v1), some (.int v2)] [] h (fun x : Int32 => some (.int x)) (fX11_cheat v0 v1 v2 h) := by
  unfold fX11_cheat
  refine gx_iload_n 0 dX11_cheat_0 rfl rfl ?_
  refine gx_iload_n 1 dX11_cheat_1 rfl rfl ?_
  refine gx_iload_n 2 dX11_cheat_2 rfl rfl ?_
  refine gx_iconst (1 : Int32) dX11_cheat_3 (by decide) ?_
  refine gx_icmp_ne 11 dX11_cheat_4 (by decide) (fun _ => ?_) (fun _ => ?_)
  · refine gx_iload_n 2 dX11_cheat_11 rfl rfl ?_
    exact gx_sub (gX11_cheat_12 v0 v1 v2 h) True.intro
  · refine gx_iconst (2 : Int32) dX11_cheat_7 (by decide) ?_
    refine gx_goto 12 dX11_cheat_8 (by decide) ?_
    exact gx_sub (gX11_cheat_12 v0 v1 (2 : Int32) h) True.intro
theorem okX11_cheat {E : gx_Env} (d : Nat) {v0 : Int32} {v1 : Int32} {v2 : Int32} {h : gx_H} {r : Int32} {h1 : gx_H} (q : fX11_cheat v0 v1 v2 h = some (r, h1)) : gx_M E yX11_cheat cX11_cheat 3 (some .int) (d + 1) 0 0 [.int v0, .int v1, .int v2] h ((fun x : Int32 => some (.int x)) r) h1 := gx_meth (y := yX11_cheat) (cc := cX11_cheat) (nL := 3) (em := (fun x : Int32 => some (.int x))) (ini := false) [.int v0, .int v1, .int v2] (by decide) (by simp [gx_sl]) (fun q => by cases q) (geX11_cheat v0 v1 v2 h) q
theorem dX11_goesBy_0 : decode cX11_goesBy 0 = .ok (.iload_n 0, 1) := by decide +kernel
theorem dX11_goesBy_1 : decode cX11_goesBy 1 = .ok (.tableswitch 99 1 5 #[35, 56, 63, 70, 88], 35) := by decide +kernel
theorem dX11_goesBy_36 : decode cX11_goesBy 36 = .ok (.iload_n 2, 1) := by decide +kernel
theorem dX11_goesBy_37 : decode cX11_goesBy 37 = .ok (.iload_n 3, 1) := by decide +kernel
theorem dX11_goesBy_38 : decode cX11_goesBy 38 = .ok (.iadd, 1) := by decide +kernel
theorem dX11_goesBy_39 : decode cX11_goesBy 39 = .ok (.iload_n 1, 1) := by decide +kernel
theorem dX11_goesBy_40 : decode cX11_goesBy 40 = .ok (.if_icmp .le 13, 3) := by decide +kernel
theorem dX11_goesBy_43 : decode cX11_goesBy 43 = .ok (.iconst 2, 1) := by decide +kernel
theorem dX11_goesBy_44 : decode cX11_goesBy 44 = .ok (.iload_n 1, 1) := by decide +kernel
theorem dX11_goesBy_45 : decode cX11_goesBy 45 = .ok (.imul, 1) := by decide +kernel
theorem dX11_goesBy_46 : decode cX11_goesBy 46 = .ok (.iload_n 2, 1) := by decide +kernel
theorem dX11_goesBy_47 : decode cX11_goesBy 47 = .ok (.isub, 1) := by decide +kernel
theorem dX11_goesBy_48 : decode cX11_goesBy 48 = .ok (.iload_n 3, 1) := by decide +kernel
theorem dX11_goesBy_49 : decode cX11_goesBy 49 = .ok (.isub, 1) := by decide +kernel
theorem dX11_goesBy_50 : decode cX11_goesBy 50 = .ok (.goto 6, 3) := by decide +kernel
theorem dX11_goesBy_53 : decode cX11_goesBy 53 = .ok (.iload_n 2, 1) := by decide +kernel
theorem dX11_goesBy_54 : decode cX11_goesBy 54 = .ok (.iload_n 3, 1) := by decide +kernel
theorem dX11_goesBy_55 : decode cX11_goesBy 55 = .ok (.iadd, 1) := by decide +kernel
theorem dX11_goesBy_56 : decode cX11_goesBy 56 = .ok (.ireturn, 1) := by decide +kernel
theorem dX11_goesBy_57 : decode cX11_goesBy 57 = .ok (.iload_n 1, 1) := by decide +kernel
theorem dX11_goesBy_58 : decode cX11_goesBy 58 = .ok (.iload_n 2, 1) := by decide +kernel
theorem dX11_goesBy_59 : decode cX11_goesBy 59 = .ok (.iload_n 3, 1) := by decide +kernel
theorem dX11_goesBy_60 : decode cX11_goesBy 60 = .ok (.invokestatic 47, 3) := by decide +kernel
theorem dX11_goesBy_63 : decode cX11_goesBy 63 = .ok (.ireturn, 1) := by decide +kernel
theorem dX11_goesBy_64 : decode cX11_goesBy 64 = .ok (.iload_n 1, 1) := by decide +kernel
theorem dX11_goesBy_65 : decode cX11_goesBy 65 = .ok (.iload_n 2, 1) := by decide +kernel
theorem dX11_goesBy_66 : decode cX11_goesBy 66 = .ok (.iload_n 3, 1) := by decide +kernel
theorem dX11_goesBy_67 : decode cX11_goesBy 67 = .ok (.invokestatic 50, 3) := by decide +kernel
theorem dX11_goesBy_70 : decode cX11_goesBy 70 = .ok (.ireturn, 1) := by decide +kernel
theorem dX11_goesBy_71 : decode cX11_goesBy 71 = .ok (.iload_n 2, 1) := by decide +kernel
theorem dX11_goesBy_72 : decode cX11_goesBy 72 = .ok (.iload_n 3, 1) := by decide +kernel
theorem dX11_goesBy_73 : decode cX11_goesBy 73 = .ok (.iadd, 1) := by decide +kernel
theorem dX11_goesBy_74 : decode cX11_goesBy 74 = .ok (.iload_n 1, 1) := by decide +kernel
theorem dX11_goesBy_75 : decode cX11_goesBy 75 = .ok (.if_icmp .lt 7, 3) := by decide +kernel
theorem dX11_goesBy_78 : decode cX11_goesBy 78 = .ok (.iload_n 1, 1) := by decide +kernel
theorem dX11_goesBy_79 : decode cX11_goesBy 79 = .ok (.goto 9, 3) := by decide +kernel
theorem dX11_goesBy_82 : decode cX11_goesBy 82 = .ok (.iload_n 1, 1) := by decide +kernel
theorem dX11_goesBy_83 : decode cX11_goesBy 83 = .ok (.iload_n 2, 1) := by decide +kernel
theorem dX11_goesBy_84 : decode cX11_goesBy 84 = .ok (.iload_n 3, 1) := by decide +kernel
theorem dX11_goesBy_85 : decode cX11_goesBy 85 = .ok (.invokestatic 50, 3) := by decide +kernel
theorem dX11_goesBy_88 : decode cX11_goesBy 88 = .ok (.ireturn, 1) := by decide +kernel
theorem dX11_goesBy_89 : decode cX11_goesBy 89 = .ok (.iload_n 1, 1) := by decide +kernel
theorem dX11_goesBy_90 : decode cX11_goesBy 90 = .ok (.iload_n 2, 1) := by decide +kernel
theorem dX11_goesBy_91 : decode cX11_goesBy 91 = .ok (.iload_n 3, 1) := by decide +kernel
theorem dX11_goesBy_92 : decode cX11_goesBy 92 = .ok (.iconst 1, 1) := by decide +kernel
theorem dX11_goesBy_93 : decode cX11_goesBy 93 = .ok (.iadd, 1) := by decide +kernel
theorem dX11_goesBy_94 : decode cX11_goesBy 94 = .ok (.iconst 2, 1) := by decide +kernel
theorem dX11_goesBy_95 : decode cX11_goesBy 95 = .ok (.idiv, 1) := by decide +kernel
theorem dX11_goesBy_96 : decode cX11_goesBy 96 = .ok (.invokestatic 47, 3) := by decide +kernel
theorem dX11_goesBy_99 : decode cX11_goesBy 99 = .ok (.ireturn, 1) := by decide +kernel
theorem dX11_goesBy_100 : decode cX11_goesBy 100 = .ok (.iload_n 1, 1) := by decide +kernel
theorem dX11_goesBy_101 : decode cX11_goesBy 101 = .ok (.iload_n 2, 1) := by decide +kernel
theorem dX11_goesBy_102 : decode cX11_goesBy 102 = .ok (.iload_n 3, 1) := by decide +kernel
theorem dX11_goesBy_103 : decode cX11_goesBy 103 = .ok (.invokestatic 43, 3) := by decide +kernel
theorem dX11_goesBy_106 : decode cX11_goesBy 106 = .ok (.ireturn, 1) := by decide +kernel
def fX11_goesBy_56 (s0 : Int32) (h : gx_H) : Option (Int32 × gx_H) :=
  some (s0, h)
def fX11_goesBy_88 (s0 : Int32) (h : gx_H) : Option (Int32 × gx_H) :=
  some (s0, h)
def fX11_goesBy (v0 : Int32) (v1 : Int32) (v2 : Int32) (v3 : Int32) (h : gx_H) : Option (Int32 × gx_H) :=
  if v0 = (1 : Int32) then
    if (v2 + v3) ≤ v1 then
      fX11_goesBy_56 (v2 + v3) h
    else
      fX11_goesBy_56 ((((2 : Int32) * v1) - v2) - v3) h
  else
  if v0 = (2 : Int32) then
    gx_bd (fX11_timid v1 v2 v3 h) fun x2 h1 =>
    some (x2, h1)
  else
  if v0 = (3 : Int32) then
    gx_bd (fX11_cheat v1 v2 v3 h) fun x4 h3 =>
    some (x4, h3)
  else
  if v0 = (4 : Int32) then
    if (v2 + v3) < v1 then
      gx_bd (fX11_cheat v1 v2 v3 h) fun x6 h5 =>
      fX11_goesBy_88 x6 h5
    else
      fX11_goesBy_88 v1 h
  else
  if v0 = (5 : Int32) then
    (gx_dI (v3 + (1 : Int32)) (2 : Int32)).bind fun z7 =>
    gx_bd (fX11_timid v1 v2 z7 h) fun x9 h8 =>
    some (x9, h8)
  else
  gx_bd (fX11_plain v1 v2 v3 h) fun x11 h10 =>
  some (x11, h10)
set_option maxRecDepth 100000 in
set_option maxHeartbeats 4000000 in
theorem gX11_goesBy_56 {E : gx_Env} {d : Nat}  : ∀ (s0 : Int32) (h : gx_H), gx_G E RX11 cX11_goesBy 4 (some .int) false (d + 2) 0 0 56 [none, none, none, none] [.int s0] h (fun x : Int32 => some (.int x)) (fX11_goesBy_56 s0 h) := by
  intro s0 h
  unfold fX11_goesBy_56
  exact gx_iret dX11_goesBy_56 rfl
set_option maxRecDepth 100000 in
set_option maxHeartbeats 4000000 in
theorem gX11_goesBy_88 {E : gx_Env} {d : Nat}  : ∀ (s0 : Int32) (h : gx_H), gx_G E RX11 cX11_goesBy 4 (some .int) false (d + 2) 0 0 88 [none, none, none, none] [.int s0] h (fun x : Int32 => some (.int x)) (fX11_goesBy_88 s0 h) := by
  intro s0 h
  unfold fX11_goesBy_88
  exact gx_iret dX11_goesBy_88 rfl
set_option maxRecDepth 100000 in
set_option maxHeartbeats 4000000 in
theorem geX11_goesBy {E : gx_Env} {d : Nat} (v0 : Int32) (v1 : Int32) (v2 : Int32) (v3 : Int32) (h : gx_H) : gx_G E RX11 cX11_goesBy 4 (some .int) false (d + 2) 0 0 0 [some (.int v0), some (.int v1), some (.int v2), some (.int v3)] [] h (fun x : Int32 => some (.int x)) (fX11_goesBy v0 v1 v2 v3 h) := by
  unfold fX11_goesBy
  refine gx_iload_n 0 dX11_goesBy_0 rfl rfl ?_
  refine gx_ite (fun hx => ?_) (fun hx0 => ?_)
  · refine gx_tabIn (off := 35) 36 dX11_goesBy_1 (by rw [hx]; decide) (by rw [hx]; decide) (by rw [hx]; decide) (by decide) ?_
    refine gx_iload_n 2 dX11_goesBy_36 rfl rfl ?_
    refine gx_iload_n 3 dX11_goesBy_37 rfl rfl ?_
    refine gx_iadd dX11_goesBy_38 ?_
    refine gx_iload_n 1 dX11_goesBy_39 rfl rfl ?_
    refine gx_icmp_le 53 dX11_goesBy_40 (by decide) (fun _ => ?_) (fun _ => ?_)
    · refine gx_iload_n 2 dX11_goesBy_53 rfl rfl ?_
      refine gx_iload_n 3 dX11_goesBy_54 rfl rfl ?_
      refine gx_iadd dX11_goesBy_55 ?_
      exact gx_sub (gX11_goesBy_56 (v2 + v3) h) True.intro
    · refine gx_iconst (2 : Int32) dX11_goesBy_43 (by decide) ?_
      refine gx_iload_n 1 dX11_goesBy_44 rfl rfl ?_
      refine gx_imul dX11_goesBy_45 ?_
      refine gx_iload_n 2 dX11_goesBy_46 rfl rfl ?_
      refine gx_isub dX11_goesBy_47 ?_
      refine gx_iload_n 3 dX11_goesBy_48 rfl rfl ?_
      refine gx_isub dX11_goesBy_49 ?_
      refine gx_goto 56 dX11_goesBy_50 (by decide) ?_
      exact gx_sub (gX11_goesBy_56 ((((2 : Int32) * v1) - v2) - v3) h) True.intro
  refine gx_ite (fun hx => ?_) (fun hx1 => ?_)
  · refine gx_tabIn (off := 56) 57 dX11_goesBy_1 (by rw [hx]; decide) (by rw [hx]; decide) (by rw [hx]; decide) (by decide) ?_
    refine gx_iload_n 1 dX11_goesBy_57 rfl rfl ?_
    refine gx_iload_n 2 dX11_goesBy_58 rfl rfl ?_
    refine gx_iload_n 3 dX11_goesBy_59 rfl rfl ?_
    refine gx_callS (bc := 0) (bs := 0) (mc := 0) (ms := 0) (em' := (fun x : Int32 => some (.int x))) [.int v1, .int v2, .int v3] kc_RX11_47 dX11_goesBy_60 rfl rfl (gx_w8 rfl) (fun _ _ q => okX11_timid d q) (fun x2 h1 => ?_)
    exact gx_iret dX11_goesBy_63 rfl
  refine gx_ite (fun hx => ?_) (fun hx2 => ?_)
  · refine gx_tabIn (off := 63) 64 dX11_goesBy_1 (by rw [hx]; decide) (by rw [hx]; decide) (by rw [hx]; decide) (by decide) ?_
    refine gx_iload_n 1 dX11_goesBy_64 rfl rfl ?_
    refine gx_iload_n 2 dX11_goesBy_65 rfl rfl ?_
    refine gx_iload_n 3 dX11_goesBy_66 rfl rfl ?_
    refine gx_callS (bc := 0) (bs := 0) (mc := 0) (ms := 0) (em' := (fun x : Int32 => some (.int x))) [.int v1, .int v2, .int v3] kc_RX11_50 dX11_goesBy_67 rfl rfl (gx_w8 rfl) (fun _ _ q => okX11_cheat d q) (fun x4 h3 => ?_)
    exact gx_iret dX11_goesBy_70 rfl
  refine gx_ite (fun hx => ?_) (fun hx3 => ?_)
  · refine gx_tabIn (off := 70) 71 dX11_goesBy_1 (by rw [hx]; decide) (by rw [hx]; decide) (by rw [hx]; decide) (by decide) ?_
    refine gx_iload_n 2 dX11_goesBy_71 rfl rfl ?_
    refine gx_iload_n 3 dX11_goesBy_72 rfl rfl ?_
    refine gx_iadd dX11_goesBy_73 ?_
    refine gx_iload_n 1 dX11_goesBy_74 rfl rfl ?_
    refine gx_icmp_lt 82 dX11_goesBy_75 (by decide) (fun _ => ?_) (fun _ => ?_)
    · refine gx_iload_n 1 dX11_goesBy_82 rfl rfl ?_
      refine gx_iload_n 2 dX11_goesBy_83 rfl rfl ?_
      refine gx_iload_n 3 dX11_goesBy_84 rfl rfl ?_
      refine gx_callS (bc := 0) (bs := 0) (mc := 0) (ms := 0) (em' := (fun x : Int32 => some (.int x))) [.int v1, .int v2, .int v3] kc_RX11_50 dX11_goesBy_85 rfl rfl (gx_w8 rfl) (fun _ _ q => okX11_cheat d q) (fun x6 h5 => ?_)
      exact gx_sub (gX11_goesBy_88 x6 h5) True.intro
    · refine gx_iload_n 1 dX11_goesBy_78 rfl rfl ?_
      refine gx_goto 88 dX11_goesBy_79 (by decide) ?_
      exact gx_sub (gX11_goesBy_88 v1 h) True.intro
  refine gx_ite (fun hx => ?_) (fun hx4 => ?_)
  · refine gx_tabIn (off := 88) 89 dX11_goesBy_1 (by rw [hx]; decide) (by rw [hx]; decide) (by rw [hx]; decide) (by decide) ?_
    refine gx_iload_n 1 dX11_goesBy_89 rfl rfl ?_
    refine gx_iload_n 2 dX11_goesBy_90 rfl rfl ?_
    refine gx_iload_n 3 dX11_goesBy_91 rfl rfl ?_
    refine gx_iconst (1 : Int32) dX11_goesBy_92 (by decide) ?_
    refine gx_iadd dX11_goesBy_93 ?_
    refine gx_iconst (2 : Int32) dX11_goesBy_94 (by decide) ?_
    refine gx_idiv dX11_goesBy_95 (fun z7 => ?_)
    refine gx_callS (bc := 0) (bs := 0) (mc := 0) (ms := 0) (em' := (fun x : Int32 => some (.int x))) [.int v1, .int v2, .int z7] kc_RX11_47 dX11_goesBy_96 rfl rfl (gx_w8 rfl) (fun _ _ q => okX11_timid d q) (fun x9 h8 => ?_)
    exact gx_iret dX11_goesBy_99 rfl
  refine gx_tabOut 100 dX11_goesBy_1 (by have q0 := lv_neT hx0 (a := 1) (by decide); have q1 := lv_neT hx1 (a := 2) (by decide); have q2 := lv_neT hx2 (a := 3) (by decide); have q3 := lv_neT hx3 (a := 4) (by decide); have q4 := lv_neT hx4 (a := 5) (by decide); omega) (by decide) ?_
  refine gx_iload_n 1 dX11_goesBy_100 rfl rfl ?_
  refine gx_iload_n 2 dX11_goesBy_101 rfl rfl ?_
  refine gx_iload_n 3 dX11_goesBy_102 rfl rfl ?_
  refine gx_callS (bc := 0) (bs := 0) (mc := 0) (ms := 0) (em' := (fun x : Int32 => some (.int x))) [.int v1, .int v2, .int v3] kc_RX11_43 dX11_goesBy_103 rfl rfl (gx_w8 rfl) (fun _ _ q => okX11_plain (d + 1) q) (fun x11 h10 => ?_)
  exact gx_iret dX11_goesBy_106 rfl
theorem okX11_goesBy {E : gx_Env} (d : Nat) {v0 : Int32} {v1 : Int32} {v2 : Int32} {v3 : Int32} {h : gx_H} {r : Int32} {h1 : gx_H} (q : fX11_goesBy v0 v1 v2 v3 h = some (r, h1)) : gx_M E yX11_goesBy cX11_goesBy 4 (some .int) (d + 2) 0 0 [.int v0, .int v1, .int v2, .int v3] h ((fun x : Int32 => some (.int x)) r) h1 := gx_meth (y := yX11_goesBy) (cc := cX11_goesBy) (nL := 4) (em := (fun x : Int32 => some (.int x))) (ini := false) [.int v0, .int v1, .int v2, .int v3] (by decide) (by simp [gx_sl]) (fun q => by cases q) (geX11_goesBy v0 v1 v2 v3 h) q
theorem dX11_greased_0 : decode cX11_greased 0 = .ok (.iload_n 0, 1) := by decide +kernel
theorem dX11_greased_1 : decode cX11_greased 1 = .ok (.ifCond .ne 7, 3) := by decide +kernel
theorem dX11_greased_4 : decode cX11_greased 4 = .ok (.iconst 0, 1) := by decide +kernel
theorem dX11_greased_5 : decode cX11_greased 5 = .ok (.goto 6, 3) := by decide +kernel
theorem dX11_greased_8 : decode cX11_greased 8 = .ok (.iload_n 0, 1) := by decide +kernel
theorem dX11_greased_9 : decode cX11_greased 9 = .ok (.iconst 1, 1) := by decide +kernel
theorem dX11_greased_10 : decode cX11_greased 10 = .ok (.isub, 1) := by decide +kernel
theorem dX11_greased_11 : decode cX11_greased 11 = .ok (.ireturn, 1) := by decide +kernel
def fX11_greased_11 (s0 : Int32) (h : gx_H) : Option (Int32 × gx_H) :=
  some (s0, h)
def fX11_greased (v0 : Int32) (h : gx_H) : Option (Int32 × gx_H) :=
  if v0 = 0 then
    fX11_greased_11 (0 : Int32) h
  else
    fX11_greased_11 (v0 - (1 : Int32)) h
set_option maxRecDepth 100000 in
set_option maxHeartbeats 4000000 in
theorem gX11_greased_11 {E : gx_Env} {d : Nat}  : ∀ (s0 : Int32) (h : gx_H), gx_G E RX11 cX11_greased 1 (some .int) false d 0 0 11 [none] [.int s0] h (fun x : Int32 => some (.int x)) (fX11_greased_11 s0 h) := by
  intro s0 h
  unfold fX11_greased_11
  exact gx_iret dX11_greased_11 rfl
set_option maxRecDepth 100000 in
set_option maxHeartbeats 4000000 in
theorem geX11_greased {E : gx_Env} {d : Nat} (v0 : Int32) (h : gx_H) : gx_G E RX11 cX11_greased 1 (some .int) false d 0 0 0 [some (.int v0)] [] h (fun x : Int32 => some (.int x)) (fX11_greased v0 h) := by
  unfold fX11_greased
  refine gx_iload_n 0 dX11_greased_0 rfl rfl ?_
  refine gx_if_ne 8 dX11_greased_1 (by decide) (fun _ => ?_) (fun _ => ?_)
  · refine gx_iload_n 0 dX11_greased_8 rfl rfl ?_
    refine gx_iconst (1 : Int32) dX11_greased_9 (by decide) ?_
    refine gx_isub dX11_greased_10 ?_
    exact gx_sub (gX11_greased_11 (v0 - (1 : Int32)) h) True.intro
  · refine gx_iconst (0 : Int32) dX11_greased_4 (by decide) ?_
    refine gx_goto 11 dX11_greased_5 (by decide) ?_
    exact gx_sub (gX11_greased_11 (0 : Int32) h) True.intro
theorem okX11_greased {E : gx_Env} (d : Nat) {v0 : Int32} {h : gx_H} {r : Int32} {h1 : gx_H} (q : fX11_greased v0 h = some (r, h1)) : gx_M E yX11_greased cX11_greased 1 (some .int) d 0 0 [.int v0] h ((fun x : Int32 => some (.int x)) r) h1 := gx_meth (y := yX11_greased) (cc := cX11_greased) (nL := 1) (em := (fun x : Int32 => some (.int x))) (ini := false) [.int v0] (by decide) (by simp [gx_sl]) (fun q => by cases q) (geX11_greased v0 h) q
theorem dX11_leadsBy_0 : decode cX11_leadsBy 0 = .ok (.iload_n 0, 1) := by decide +kernel
theorem dX11_leadsBy_1 : decode cX11_leadsBy 1 = .ok (.tableswitch 109 1 5 #[35, 49, 54, 66, 83], 35) := by decide +kernel
theorem dX11_leadsBy_36 : decode cX11_leadsBy 36 = .ok (.iload 4, 2) := by decide +kernel
theorem dX11_leadsBy_38 : decode cX11_leadsBy 38 = .ok (.iconst 2, 1) := by decide +kernel
theorem dX11_leadsBy_39 : decode cX11_leadsBy 39 = .ok (.irem, 1) := by decide +kernel
theorem dX11_leadsBy_40 : decode cX11_leadsBy 40 = .ok (.iconst 1, 1) := by decide +kernel
theorem dX11_leadsBy_41 : decode cX11_leadsBy 41 = .ok (.if_icmp .ne 7, 3) := by decide +kernel
theorem dX11_leadsBy_44 : decode cX11_leadsBy 44 = .ok (.iload_n 2, 1) := by decide +kernel
theorem dX11_leadsBy_45 : decode cX11_leadsBy 45 = .ok (.goto 4, 3) := by decide +kernel
theorem dX11_leadsBy_48 : decode cX11_leadsBy 48 = .ok (.iload_n 3, 1) := by decide +kernel
theorem dX11_leadsBy_49 : decode cX11_leadsBy 49 = .ok (.ireturn, 1) := by decide +kernel
theorem dX11_leadsBy_50 : decode cX11_leadsBy 50 = .ok (.iload_n 3, 1) := by decide +kernel
theorem dX11_leadsBy_51 : decode cX11_leadsBy 51 = .ok (.invokestatic 53, 3) := by decide +kernel
theorem dX11_leadsBy_54 : decode cX11_leadsBy 54 = .ok (.ireturn, 1) := by decide +kernel
theorem dX11_leadsBy_55 : decode cX11_leadsBy 55 = .ok (.iload 4, 2) := by decide +kernel
theorem dX11_leadsBy_57 : decode cX11_leadsBy 57 = .ok (.iconst 1, 1) := by decide +kernel
theorem dX11_leadsBy_58 : decode cX11_leadsBy 58 = .ok (.if_icmp .lt 7, 3) := by decide +kernel
theorem dX11_leadsBy_61 : decode cX11_leadsBy 61 = .ok (.iload_n 2, 1) := by decide +kernel
theorem dX11_leadsBy_62 : decode cX11_leadsBy 62 = .ok (.goto 4, 3) := by decide +kernel
theorem dX11_leadsBy_65 : decode cX11_leadsBy 65 = .ok (.iload_n 3, 1) := by decide +kernel
theorem dX11_leadsBy_66 : decode cX11_leadsBy 66 = .ok (.ireturn, 1) := by decide +kernel
theorem dX11_leadsBy_67 : decode cX11_leadsBy 67 = .ok (.iload_n 3, 1) := by decide +kernel
theorem dX11_leadsBy_68 : decode cX11_leadsBy 68 = .ok (.iload 5, 2) := by decide +kernel
theorem dX11_leadsBy_70 : decode cX11_leadsBy 70 = .ok (.iadd, 1) := by decide +kernel
theorem dX11_leadsBy_71 : decode cX11_leadsBy 71 = .ok (.iload_n 1, 1) := by decide +kernel
theorem dX11_leadsBy_72 : decode cX11_leadsBy 72 = .ok (.if_icmp .le 7, 3) := by decide +kernel
theorem dX11_leadsBy_75 : decode cX11_leadsBy 75 = .ok (.iload_n 1, 1) := by decide +kernel
theorem dX11_leadsBy_76 : decode cX11_leadsBy 76 = .ok (.goto 7, 3) := by decide +kernel
theorem dX11_leadsBy_79 : decode cX11_leadsBy 79 = .ok (.iload_n 3, 1) := by decide +kernel
theorem dX11_leadsBy_80 : decode cX11_leadsBy 80 = .ok (.iload 5, 2) := by decide +kernel
theorem dX11_leadsBy_82 : decode cX11_leadsBy 82 = .ok (.iadd, 1) := by decide +kernel
theorem dX11_leadsBy_83 : decode cX11_leadsBy 83 = .ok (.ireturn, 1) := by decide +kernel
theorem dX11_leadsBy_84 : decode cX11_leadsBy 84 = .ok (.iload_n 3, 1) := by decide +kernel
theorem dX11_leadsBy_85 : decode cX11_leadsBy 85 = .ok (.invokestatic 53, 3) := by decide +kernel
theorem dX11_leadsBy_88 : decode cX11_leadsBy 88 = .ok (.iload 5, 2) := by decide +kernel
theorem dX11_leadsBy_90 : decode cX11_leadsBy 90 = .ok (.iconst 3, 1) := by decide +kernel
theorem dX11_leadsBy_91 : decode cX11_leadsBy 91 = .ok (.idiv, 1) := by decide +kernel
theorem dX11_leadsBy_92 : decode cX11_leadsBy 92 = .ok (.isub, 1) := by decide +kernel
theorem dX11_leadsBy_93 : decode cX11_leadsBy 93 = .ok (.ifCond .ge 7, 3) := by decide +kernel
theorem dX11_leadsBy_96 : decode cX11_leadsBy 96 = .ok (.iconst 0, 1) := by decide +kernel
theorem dX11_leadsBy_97 : decode cX11_leadsBy 97 = .ok (.goto 12, 3) := by decide +kernel
theorem dX11_leadsBy_100 : decode cX11_leadsBy 100 = .ok (.iload_n 3, 1) := by decide +kernel
theorem dX11_leadsBy_101 : decode cX11_leadsBy 101 = .ok (.invokestatic 53, 3) := by decide +kernel
theorem dX11_leadsBy_104 : decode cX11_leadsBy 104 = .ok (.iload 5, 2) := by decide +kernel
theorem dX11_leadsBy_106 : decode cX11_leadsBy 106 = .ok (.iconst 3, 1) := by decide +kernel
theorem dX11_leadsBy_107 : decode cX11_leadsBy 107 = .ok (.idiv, 1) := by decide +kernel
theorem dX11_leadsBy_108 : decode cX11_leadsBy 108 = .ok (.isub, 1) := by decide +kernel
theorem dX11_leadsBy_109 : decode cX11_leadsBy 109 = .ok (.ireturn, 1) := by decide +kernel
theorem dX11_leadsBy_110 : decode cX11_leadsBy 110 = .ok (.iload_n 3, 1) := by decide +kernel
theorem dX11_leadsBy_111 : decode cX11_leadsBy 111 = .ok (.ireturn, 1) := by decide +kernel
def fX11_leadsBy_49 (s0 : Int32) (h : gx_H) : Option (Int32 × gx_H) :=
  some (s0, h)
def fX11_leadsBy_66 (s0 : Int32) (h : gx_H) : Option (Int32 × gx_H) :=
  some (s0, h)
def fX11_leadsBy_83 (s0 : Int32) (h : gx_H) : Option (Int32 × gx_H) :=
  some (s0, h)
def fX11_leadsBy_109 (s0 : Int32) (h : gx_H) : Option (Int32 × gx_H) :=
  some (s0, h)
def fX11_leadsBy (v0 : Int32) (v1 : Int32) (v2 : Int32) (v3 : Int32) (v4 : Int32) (v5 : Int32) (h : gx_H) : Option (Int32 × gx_H) :=
  if v0 = (1 : Int32) then
    (gx_rI v4 (2 : Int32)).bind fun z1 =>
    if z1 = (1 : Int32) then
      fX11_leadsBy_49 v2 h
    else
      fX11_leadsBy_49 v3 h
  else
  if v0 = (2 : Int32) then
    gx_bd (fX11_greased v3 h) fun x3 h2 =>
    some (x3, h2)
  else
  if v0 = (3 : Int32) then
    if v4 < (1 : Int32) then
      fX11_leadsBy_66 v3 h
    else
      fX11_leadsBy_66 v2 h
  else
  if v0 = (4 : Int32) then
    if (v3 + v5) ≤ v1 then
      fX11_leadsBy_83 (v3 + v5) h
    else
      fX11_leadsBy_83 v1 h
  else
  if v0 = (5 : Int32) then
    gx_bd (fX11_greased v3 h) fun x5 h4 =>
    (gx_dI v5 (3 : Int32)).bind fun z6 =>
    if 0 ≤ (x5 - z6) then
      gx_bd (fX11_greased v3 h4) fun x8 h7 =>
      (gx_dI v5 (3 : Int32)).bind fun z9 =>
      fX11_leadsBy_109 (x8 - z9) h7
    else
      fX11_leadsBy_109 (0 : Int32) h4
  else
  some (v3, h)
set_option maxRecDepth 100000 in
set_option maxHeartbeats 4000000 in
theorem gX11_leadsBy_49 {E : gx_Env} {d : Nat}  : ∀ (s0 : Int32) (h : gx_H), gx_G E RX11 cX11_leadsBy 6 (some .int) false (d + 1) 0 0 49 [none, none, none, none, none, none] [.int s0] h (fun x : Int32 => some (.int x)) (fX11_leadsBy_49 s0 h) := by
  intro s0 h
  unfold fX11_leadsBy_49
  exact gx_iret dX11_leadsBy_49 rfl
set_option maxRecDepth 100000 in
set_option maxHeartbeats 4000000 in
theorem gX11_leadsBy_66 {E : gx_Env} {d : Nat}  : ∀ (s0 : Int32) (h : gx_H), gx_G E RX11 cX11_leadsBy 6 (some .int) false (d + 1) 0 0 66 [none, none, none, none, none, none] [.int s0] h (fun x : Int32 => some (.int x)) (fX11_leadsBy_66 s0 h) := by
  intro s0 h
  unfold fX11_leadsBy_66
  exact gx_iret dX11_leadsBy_66 rfl
set_option maxRecDepth 100000 in
set_option maxHeartbeats 4000000 in
theorem gX11_leadsBy_83 {E : gx_Env} {d : Nat}  : ∀ (s0 : Int32) (h : gx_H), gx_G E RX11 cX11_leadsBy 6 (some .int) false (d + 1) 0 0 83 [none, none, none, none, none, none] [.int s0] h (fun x : Int32 => some (.int x)) (fX11_leadsBy_83 s0 h) := by
  intro s0 h
  unfold fX11_leadsBy_83
  exact gx_iret dX11_leadsBy_83 rfl
set_option maxRecDepth 100000 in
set_option maxHeartbeats 4000000 in
theorem gX11_leadsBy_109 {E : gx_Env} {d : Nat}  : ∀ (s0 : Int32) (h : gx_H), gx_G E RX11 cX11_leadsBy 6 (some .int) false (d + 1) 0 0 109 [none, none, none, none, none, none] [.int s0] h (fun x : Int32 => some (.int x)) (fX11_leadsBy_109 s0 h) := by
  intro s0 h
  unfold fX11_leadsBy_109
  exact gx_iret dX11_leadsBy_109 rfl
set_option maxRecDepth 100000 in
set_option maxHeartbeats 4000000 in
theorem geX11_leadsBy {E : gx_Env} {d : Nat} (v0 : Int32) (v1 : Int32) (v2 : Int32) (v3 : Int32) (v4 : Int32) (v5 : Int32) (h : gx_H) : gx_G E RX11 cX11_leadsBy 6 (some .int) false (d + 1) 0 0 0 [some (.int v0), some (.int v1), some (.int v2), some (.int v3), some (.int v4), some (.int v5)] [] h (fun x : Int32 => some (.int x)) (fX11_leadsBy v0 v1 v2 v3 v4 v5 h) := by
  unfold fX11_leadsBy
  refine gx_iload_n 0 dX11_leadsBy_0 rfl rfl ?_
  refine gx_ite (fun hx => ?_) (fun hx0 => ?_)
  · refine gx_tabIn (off := 35) 36 dX11_leadsBy_1 (by rw [hx]; decide) (by rw [hx]; decide) (by rw [hx]; decide) (by decide) ?_
    refine gx_iload dX11_leadsBy_36 rfl ?_
    refine gx_iconst (2 : Int32) dX11_leadsBy_38 (by decide) ?_
    refine gx_irem dX11_leadsBy_39 (fun z1 => ?_)
    refine gx_iconst (1 : Int32) dX11_leadsBy_40 (by decide) ?_
    refine gx_icmp_ne 48 dX11_leadsBy_41 (by decide) (fun _ => ?_) (fun _ => ?_)
    · refine gx_iload_n 3 dX11_leadsBy_48 rfl rfl ?_
      exact gx_sub (gX11_leadsBy_49 v3 h) True.intro
    · refine gx_iload_n 2 dX11_leadsBy_44 rfl rfl ?_
      refine gx_goto 49 dX11_leadsBy_45 (by decide) ?_
      exact gx_sub (gX11_leadsBy_49 v2 h) True.intro
  refine gx_ite (fun hx => ?_) (fun hx1 => ?_)
  · refine gx_tabIn (off := 49) 50 dX11_leadsBy_1 (by rw [hx]; decide) (by rw [hx]; decide) (by rw [hx]; decide) (by decide) ?_
    refine gx_iload_n 3 dX11_leadsBy_50 rfl rfl ?_
    refine gx_callS (bc := 0) (bs := 0) (mc := 0) (ms := 0) (em' := (fun x : Int32 => some (.int x))) [.int v3] kc_RX11_53 dX11_leadsBy_51 rfl rfl (gx_w8 rfl) (fun _ _ q => okX11_greased d q) (fun x3 h2 => ?_)
    exact gx_iret dX11_leadsBy_54 rfl
  refine gx_ite (fun hx => ?_) (fun hx2 => ?_)
  · refine gx_tabIn (off := 54) 55 dX11_leadsBy_1 (by rw [hx]; decide) (by rw [hx]; decide) (by rw [hx]; decide) (by decide) ?_
    refine gx_iload dX11_leadsBy_55 rfl ?_
    refine gx_iconst (1 : Int32) dX11_leadsBy_57 (by decide) ?_
    refine gx_icmp_lt 65 dX11_leadsBy_58 (by decide) (fun _ => ?_) (fun _ => ?_)
    · refine gx_iload_n 3 dX11_leadsBy_65 rfl rfl ?_
      exact gx_sub (gX11_leadsBy_66 v3 h) True.intro
    · refine gx_iload_n 2 dX11_leadsBy_61 rfl rfl ?_
      refine gx_goto 66 dX11_leadsBy_62 (by decide) ?_
      exact gx_sub (gX11_leadsBy_66 v2 h) True.intro
  refine gx_ite (fun hx => ?_) (fun hx3 => ?_)
  · refine gx_tabIn (off := 66) 67 dX11_leadsBy_1 (by rw [hx]; decide) (by rw [hx]; decide) (by rw [hx]; decide) (by decide) ?_
    refine gx_iload_n 3 dX11_leadsBy_67 rfl rfl ?_
    refine gx_iload dX11_leadsBy_68 rfl ?_
    refine gx_iadd dX11_leadsBy_70 ?_
    refine gx_iload_n 1 dX11_leadsBy_71 rfl rfl ?_
    refine gx_icmp_le 79 dX11_leadsBy_72 (by decide) (fun _ => ?_) (fun _ => ?_)
    · refine gx_iload_n 3 dX11_leadsBy_79 rfl rfl ?_
      refine gx_iload dX11_leadsBy_80 rfl ?_
      refine gx_iadd dX11_leadsBy_82 ?_
      exact gx_sub (gX11_leadsBy_83 (v3 + v5) h) True.intro
    · refine gx_iload_n 1 dX11_leadsBy_75 rfl rfl ?_
      refine gx_goto 83 dX11_leadsBy_76 (by decide) ?_
      exact gx_sub (gX11_leadsBy_83 v1 h) True.intro
  refine gx_ite (fun hx => ?_) (fun hx4 => ?_)
  · refine gx_tabIn (off := 83) 84 dX11_leadsBy_1 (by rw [hx]; decide) (by rw [hx]; decide) (by rw [hx]; decide) (by decide) ?_
    refine gx_iload_n 3 dX11_leadsBy_84 rfl rfl ?_
    refine gx_callS (bc := 0) (bs := 0) (mc := 0) (ms := 0) (em' := (fun x : Int32 => some (.int x))) [.int v3] kc_RX11_53 dX11_leadsBy_85 rfl rfl (gx_w8 rfl) (fun _ _ q => okX11_greased d q) (fun x5 h4 => ?_)
    refine gx_iload dX11_leadsBy_88 rfl ?_
    refine gx_iconst (3 : Int32) dX11_leadsBy_90 (by decide) ?_
    refine gx_idiv dX11_leadsBy_91 (fun z6 => ?_)
    refine gx_isub dX11_leadsBy_92 ?_
    refine gx_if_ge 100 dX11_leadsBy_93 (by decide) (fun _ => ?_) (fun _ => ?_)
    · refine gx_iload_n 3 dX11_leadsBy_100 rfl rfl ?_
      refine gx_callS (bc := 0) (bs := 0) (mc := 0) (ms := 0) (em' := (fun x : Int32 => some (.int x))) [.int v3] kc_RX11_53 dX11_leadsBy_101 rfl rfl (gx_w8 rfl) (fun _ _ q => okX11_greased d q) (fun x8 h7 => ?_)
      refine gx_iload dX11_leadsBy_104 rfl ?_
      refine gx_iconst (3 : Int32) dX11_leadsBy_106 (by decide) ?_
      refine gx_idiv dX11_leadsBy_107 (fun z9 => ?_)
      refine gx_isub dX11_leadsBy_108 ?_
      exact gx_sub (gX11_leadsBy_109 (x8 - z9) h7) True.intro
    · refine gx_iconst (0 : Int32) dX11_leadsBy_96 (by decide) ?_
      refine gx_goto 109 dX11_leadsBy_97 (by decide) ?_
      exact gx_sub (gX11_leadsBy_109 (0 : Int32) h4) True.intro
  refine gx_tabOut 110 dX11_leadsBy_1 (by have q0 := lv_neT hx0 (a := 1) (by decide); have q1 := lv_neT hx1 (a := 2) (by decide); have q2 := lv_neT hx2 (a := 3) (by decide); have q3 := lv_neT hx3 (a := 4) (by decide); have q4 := lv_neT hx4 (a := 5) (by decide); omega) (by decide) ?_
  refine gx_iload_n 3 dX11_leadsBy_110 rfl rfl ?_
  exact gx_iret dX11_leadsBy_111 rfl
theorem okX11_leadsBy {E : gx_Env} (d : Nat) {v0 : Int32} {v1 : Int32} {v2 : Int32} {v3 : Int32} {v4 : Int32} {v5 : Int32} {h : gx_H} {r : Int32} {h1 : gx_H} (q : fX11_leadsBy v0 v1 v2 v3 v4 v5 h = some (r, h1)) : gx_M E yX11_leadsBy cX11_leadsBy 6 (some .int) (d + 1) 0 0 [.int v0, .int v1, .int v2, .int v3, .int v4, .int v5] h ((fun x : Int32 => some (.int x)) r) h1 := gx_meth (y := yX11_leadsBy) (cc := cX11_leadsBy) (nL := 6) (em := (fun x : Int32 => some (.int x))) (ini := false) [.int v0, .int v1, .int v2, .int v3, .int v4, .int v5] (by decide) (by simp [gx_sl]) (fun q => by cases q) (geX11_leadsBy v0 v1 v2 v3 v4 v5 h) q
theorem dX11_linkFrom_0 : decode cX11_linkFrom 0 = .ok (.iconst 0, 1) := by decide +kernel
theorem dX11_linkFrom_1 : decode cX11_linkFrom 1 = .ok (.istore_n 3, 1) := by decide +kernel
theorem dX11_linkFrom_2 : decode cX11_linkFrom 2 = .ok (.iload_n 3, 1) := by decide +kernel
theorem dX11_linkFrom_3 : decode cX11_linkFrom 3 = .ok (.aload_n 0, 1) := by decide +kernel
theorem dX11_linkFrom_4 : decode cX11_linkFrom 4 = .ok (.getfield 7, 3) := by decide +kernel
theorem dX11_linkFrom_7 : decode cX11_linkFrom 7 = .ok (.iload_n 1, 1) := by decide +kernel
theorem dX11_linkFrom_8 : decode cX11_linkFrom 8 = .ok (.iconst 2, 1) := by decide +kernel
theorem dX11_linkFrom_9 : decode cX11_linkFrom 9 = .ok (.iadd, 1) := by decide +kernel
theorem dX11_linkFrom_10 : decode cX11_linkFrom 10 = .ok (.iaload, 1) := by decide +kernel
theorem dX11_linkFrom_11 : decode cX11_linkFrom 11 = .ok (.if_icmp .ge 26, 3) := by decide +kernel
theorem dX11_linkFrom_14 : decode cX11_linkFrom 14 = .ok (.aload_n 0, 1) := by decide +kernel
theorem dX11_linkFrom_15 : decode cX11_linkFrom 15 = .ok (.getfield 7, 3) := by decide +kernel
theorem dX11_linkFrom_18 : decode cX11_linkFrom 18 = .ok (.iload_n 1, 1) := by decide +kernel
theorem dX11_linkFrom_19 : decode cX11_linkFrom 19 = .ok (.bipush 10, 2) := by decide +kernel
theorem dX11_linkFrom_21 : decode cX11_linkFrom 21 = .ok (.iadd, 1) := by decide +kernel
theorem dX11_linkFrom_22 : decode cX11_linkFrom 22 = .ok (.iload_n 3, 1) := by decide +kernel
theorem dX11_linkFrom_23 : decode cX11_linkFrom 23 = .ok (.iadd, 1) := by decide +kernel
theorem dX11_linkFrom_24 : decode cX11_linkFrom 24 = .ok (.iaload, 1) := by decide +kernel
theorem dX11_linkFrom_25 : decode cX11_linkFrom 25 = .ok (.iload_n 2, 1) := by decide +kernel
theorem dX11_linkFrom_26 : decode cX11_linkFrom 26 = .ok (.if_icmp .ne 5, 3) := by decide +kernel
theorem dX11_linkFrom_29 : decode cX11_linkFrom 29 = .ok (.iload_n 3, 1) := by decide +kernel
theorem dX11_linkFrom_30 : decode cX11_linkFrom 30 = .ok (.ireturn, 1) := by decide +kernel
theorem dX11_linkFrom_31 : decode cX11_linkFrom 31 = .ok (.iinc 3 1, 3) := by decide +kernel
theorem dX11_linkFrom_34 : decode cX11_linkFrom 34 = .ok (.goto (-32), 3) := by decide +kernel
theorem dX11_linkFrom_37 : decode cX11_linkFrom 37 = .ok (.iconst (-1), 1) := by decide +kernel
theorem dX11_linkFrom_38 : decode cX11_linkFrom 38 = .ok (.ireturn, 1) := by decide +kernel
def bX11_linkFrom_2 (k2 : Nat → Int32 → Int32 → Int32 → gx_H → Option (Int32 × gx_H)) (v0 : Nat) (v1 : Int32) (v2 : Int32) (v3 : Int32) (h : gx_H) : Option (Int32 × gx_H) :=
  (gx_fR h v0 9 0).bind fun a1 =>
  (gx_aI 0 h a1 (v1 + (2 : Int32))).bind fun x2 =>
  if x2 ≤ v3 then
    some ((-1 : Int32), h)
  else
    (gx_fR h v0 9 0).bind fun a3 =>
    (gx_aI 0 h a3 ((v1 + (10 : Int32)) + v3)).bind fun x4 =>
    if x4 = v2 then
      some (v3, h)
    else
      k2 v0 v1 v2 (v3 + (1 : Int32)) h
def fX11_linkFrom_2 : Nat → Nat → Int32 → Int32 → Int32 → gx_H → Option (Int32 × gx_H)
  | 0 => fun _ _ _ _ _ => none
  | n + 1 => bX11_linkFrom_2 (fX11_linkFrom_2 n)
def fX11_linkFrom (v0 : Nat) (v1 : Int32) (v2 : Int32) (h : gx_H) : Option (Int32 × gx_H) :=
  (gx_isO h v0 9).bind fun _ =>
  fX11_linkFrom_2 gx_N v0 v1 v2 (0 : Int32) h
set_option maxRecDepth 100000 in
set_option maxHeartbeats 4000000 in
theorem gbX11_linkFrom_2 {E : gx_Env} {d : Nat}  (k2 : Nat → Int32 → Int32 → Int32 → gx_H → Option (Int32 × gx_H)) (hk2 : ∀ (v0 : Nat) (v1 : Int32) (v2 : Int32) (v3 : Int32) (h : gx_H), gx_G E RX11 cX11_linkFrom 4 (some .int) false d 0 0 2 [some (.ref v0), some (.int v1), some (.int v2), some (.int v3)] [] h (fun x : Int32 => some (.int x)) (k2 v0 v1 v2 v3 h))  : ∀ (v0 : Nat) (v1 : Int32) (v2 : Int32) (v3 : Int32) (h : gx_H), gx_G E RX11 cX11_linkFrom 4 (some .int) false d 0 0 2 [some (.ref v0), some (.int v1), some (.int v2), some (.int v3)] [] h (fun x : Int32 => some (.int x)) (bX11_linkFrom_2 k2 v0 v1 v2 v3 h) := by
  intro v0 v1 v2 v3 h
  unfold bX11_linkFrom_2
  refine gx_iload_n 3 dX11_linkFrom_2 rfl rfl ?_
  refine gx_aload_n 0 dX11_linkFrom_3 rfl rfl ?_
  refine gx_getR kf_RX11_7 dX11_linkFrom_4 (fun a1 => ?_)
  refine gx_iload_n 1 dX11_linkFrom_7 rfl rfl ?_
  refine gx_iconst (2 : Int32) dX11_linkFrom_8 (by decide) ?_
  refine gx_iadd dX11_linkFrom_9 ?_
  refine gx_iald dX11_linkFrom_10 (fun x2 => ?_)
  refine gx_icmp_ge 37 dX11_linkFrom_11 (by decide) (fun _ => ?_) (fun _ => ?_)
  · refine gx_iconst (-1 : Int32) dX11_linkFrom_37 (by decide) ?_
    exact gx_iret dX11_linkFrom_38 rfl
  · refine gx_aload_n 0 dX11_linkFrom_14 rfl rfl ?_
    refine gx_getR kf_RX11_7 dX11_linkFrom_15 (fun a3 => ?_)
    refine gx_iload_n 1 dX11_linkFrom_18 rfl rfl ?_
    refine gx_bipush (10 : Int32) dX11_linkFrom_19 (by decide) ?_
    refine gx_iadd dX11_linkFrom_21 ?_
    refine gx_iload_n 3 dX11_linkFrom_22 rfl rfl ?_
    refine gx_iadd dX11_linkFrom_23 ?_
    refine gx_iald dX11_linkFrom_24 (fun x4 => ?_)
    refine gx_iload_n 2 dX11_linkFrom_25 rfl rfl ?_
    refine gx_icmp_ne 31 dX11_linkFrom_26 (by decide) (fun _ => ?_) (fun _ => ?_)
    · refine gx_iinc (1 : Int32) [some (.ref v0), some (.int v1), some (.int v2), some (.int (v3 + (1 : Int32)))] dX11_linkFrom_31 rfl (by decide) (by decide) rfl ?_
      refine gx_goto 2 dX11_linkFrom_34 (by decide) ?_
      exact gx_sub (hk2 v0 v1 v2 (v3 + (1 : Int32)) h) (And.intro rfl (And.intro rfl (And.intro rfl (And.intro rfl True.intro))))
    · refine gx_iload_n 3 dX11_linkFrom_29 rfl rfl ?_
      exact gx_iret dX11_linkFrom_30 rfl
set_option maxRecDepth 100000 in
set_option maxHeartbeats 4000000 in
theorem gX11_linkFrom_2 {E : gx_Env} {d : Nat}  : ∀ (n : Nat) (v0 : Nat) (v1 : Int32) (v2 : Int32) (v3 : Int32) (h : gx_H), gx_G E RX11 cX11_linkFrom 4 (some .int) false d 0 0 2 [some (.ref v0), some (.int v1), some (.int v2), some (.int v3)] [] h (fun x : Int32 => some (.int x)) (fX11_linkFrom_2 n v0 v1 v2 v3 h) := by
  intro n
  induction n with
  | zero => intro v0 v1 v2 v3 h; exact gx_none
  | succ n ih => exact gbX11_linkFrom_2  (fX11_linkFrom_2  n) ih
set_option maxRecDepth 100000 in
set_option maxHeartbeats 4000000 in
theorem geX11_linkFrom {E : gx_Env} {d : Nat} (v0 : Nat) (v1 : Int32) (v2 : Int32) (h : gx_H) : gx_G E RX11 cX11_linkFrom 4 (some .int) false d 0 0 0 [some (.ref v0), some (.int v1), some (.int v2), none] [] h (fun x : Int32 => some (.int x)) (fX11_linkFrom v0 v1 v2 h) := by
  unfold fX11_linkFrom
  refine gx_bind fun _ _ => ?_
  refine gx_iconst (0 : Int32) dX11_linkFrom_0 (by decide) ?_
  refine gx_istore_n 3 [some (.ref v0), some (.int v1), some (.int v2), some (.int (0 : Int32))] dX11_linkFrom_1 rfl (by decide) rfl ?_
  exact gx_sub (gX11_linkFrom_2 gx_N v0 v1 v2 (0 : Int32) h) (And.intro rfl (And.intro rfl (And.intro rfl (And.intro rfl True.intro))))
theorem okX11_linkFrom {E : gx_Env} (d : Nat) {v0 : Nat} {v1 : Int32} {v2 : Int32} {h : gx_H} {r : Int32} {h1 : gx_H} (q : fX11_linkFrom v0 v1 v2 h = some (r, h1)) : gx_M E yX11_linkFrom cX11_linkFrom 4 (some .int) d 0 0 [.ref v0, .int v1, .int v2] h ((fun x : Int32 => some (.int x)) r) h1 := gx_meth (y := yX11_linkFrom) (cc := cX11_linkFrom) (nL := 4) (em := (fun x : Int32 => some (.int x))) (ini := false) [.ref v0, .int v1, .int v2] (by decide) (by simp [gx_sl]) (fun q => by cases q) (geX11_linkFrom v0 v1 v2 h) q
theorem dX11_isHome_0 : decode cX11_isHome 0 = .ok (.aload_n 0, 1) := by decide +kernel
theorem dX11_isHome_1 : decode cX11_isHome 1 = .ok (.getfield 7, 3) := by decide +kernel
theorem dX11_isHome_4 : decode cX11_isHome 4 = .ok (.iload_n 1, 1) := by decide +kernel
theorem dX11_isHome_5 : decode cX11_isHome 5 = .ok (.bipush 32, 2) := by decide +kernel
theorem dX11_isHome_7 : decode cX11_isHome 7 = .ok (.iadd, 1) := by decide +kernel
theorem dX11_isHome_8 : decode cX11_isHome 8 = .ok (.iload_n 2, 1) := by decide +kernel
theorem dX11_isHome_9 : decode cX11_isHome 9 = .ok (.iadd, 1) := by decide +kernel
theorem dX11_isHome_10 : decode cX11_isHome 10 = .ok (.iaload, 1) := by decide +kernel
theorem dX11_isHome_11 : decode cX11_isHome 11 = .ok (.aload_n 0, 1) := by decide +kernel
theorem dX11_isHome_12 : decode cX11_isHome 12 = .ok (.getfield 7, 3) := by decide +kernel
theorem dX11_isHome_15 : decode cX11_isHome 15 = .ok (.iload_n 1, 1) := by decide +kernel
theorem dX11_isHome_16 : decode cX11_isHome 16 = .ok (.iconst 0, 1) := by decide +kernel
theorem dX11_isHome_17 : decode cX11_isHome 17 = .ok (.iadd, 1) := by decide +kernel
theorem dX11_isHome_18 : decode cX11_isHome 18 = .ok (.iaload, 1) := by decide +kernel
theorem dX11_isHome_19 : decode cX11_isHome 19 = .ok (.if_icmp .ne 7, 3) := by decide +kernel
theorem dX11_isHome_22 : decode cX11_isHome 22 = .ok (.iconst 1, 1) := by decide +kernel
theorem dX11_isHome_23 : decode cX11_isHome 23 = .ok (.goto 4, 3) := by decide +kernel
theorem dX11_isHome_26 : decode cX11_isHome 26 = .ok (.iconst 0, 1) := by decide +kernel
theorem dX11_isHome_27 : decode cX11_isHome 27 = .ok (.ireturn, 1) := by decide +kernel
def fX11_isHome_27 (s0 : Int32) (h : gx_H) : Option (Int32 × gx_H) :=
  gx_ret .boolean s0 h
def fX11_isHome (v0 : Nat) (v1 : Int32) (v2 : Int32) (h : gx_H) : Option (Int32 × gx_H) :=
  (gx_isO h v0 9).bind fun _ =>
  (gx_fR h v0 9 0).bind fun a1 =>
  (gx_aI 0 h a1 ((v1 + (32 : Int32)) + v2)).bind fun x2 =>
  (gx_fR h v0 9 0).bind fun a3 =>
  (gx_aI 0 h a3 (v1 + (0 : Int32))).bind fun x4 =>
  if x2 = x4 then
    fX11_isHome_27 (1 : Int32) h
  else
    fX11_isHome_27 (0 : Int32) h
set_option maxRecDepth 100000 in
set_option maxHeartbeats 4000000 in
theorem gX11_isHome_27 {E : gx_Env} {d : Nat}  : ∀ (s0 : Int32) (h : gx_H), gx_G E RX11 cX11_isHome 3 (some .boolean) false d 0 0 27 [none, none, none] [.int s0] h (fun x : Int32 => some (.int x)) (fX11_isHome_27 s0 h) := by
  intro s0 h
  unfold fX11_isHome_27
  exact gx_zret dX11_isHome_27 rfl
set_option maxRecDepth 100000 in
set_option maxHeartbeats 4000000 in
theorem geX11_isHome {E : gx_Env} {d : Nat} (v0 : Nat) (v1 : Int32) (v2 : Int32) (h : gx_H) : gx_G E RX11 cX11_isHome 3 (some .boolean) false d 0 0 0 [some (.ref v0), some (.int v1), some (.int v2)] [] h (fun x : Int32 => some (.int x)) (fX11_isHome v0 v1 v2 h) := by
  unfold fX11_isHome
  refine gx_bind fun _ _ => ?_
  refine gx_aload_n 0 dX11_isHome_0 rfl rfl ?_
  refine gx_getR kf_RX11_7 dX11_isHome_1 (fun a1 => ?_)
  refine gx_iload_n 1 dX11_isHome_4 rfl rfl ?_
  refine gx_bipush (32 : Int32) dX11_isHome_5 (by decide) ?_
  refine gx_iadd dX11_isHome_7 ?_
  refine gx_iload_n 2 dX11_isHome_8 rfl rfl ?_
  refine gx_iadd dX11_isHome_9 ?_
  refine gx_iald dX11_isHome_10 (fun x2 => ?_)
  refine gx_aload_n 0 dX11_isHome_11 rfl rfl ?_
  refine gx_getR kf_RX11_7 dX11_isHome_12 (fun a3 => ?_)
  refine gx_iload_n 1 dX11_isHome_15 rfl rfl ?_
  refine gx_iconst (0 : Int32) dX11_isHome_16 (by decide) ?_
  refine gx_iadd dX11_isHome_17 ?_
  refine gx_iald dX11_isHome_18 (fun x4 => ?_)
  refine gx_icmp_ne 26 dX11_isHome_19 (by decide) (fun _ => ?_) (fun _ => ?_)
  · refine gx_iconst (0 : Int32) dX11_isHome_26 (by decide) ?_
    exact gx_sub (gX11_isHome_27 (0 : Int32) h) True.intro
  · refine gx_iconst (1 : Int32) dX11_isHome_22 (by decide) ?_
    refine gx_goto 27 dX11_isHome_23 (by decide) ?_
    exact gx_sub (gX11_isHome_27 (1 : Int32) h) True.intro
theorem okX11_isHome {E : gx_Env} (d : Nat) {v0 : Nat} {v1 : Int32} {v2 : Int32} {h : gx_H} {r : Int32} {h1 : gx_H} (q : fX11_isHome v0 v1 v2 h = some (r, h1)) : gx_M E yX11_isHome cX11_isHome 3 (some .boolean) d 0 0 [.ref v0, .int v1, .int v2] h ((fun x : Int32 => some (.int x)) r) h1 := gx_meth (y := yX11_isHome) (cc := cX11_isHome) (nL := 3) (em := (fun x : Int32 => some (.int x))) (ini := false) [.ref v0, .int v1, .int v2] (by decide) (by simp [gx_sl]) (fun q => by cases q) (geX11_isHome v0 v1 v2 h) q
theorem dX11_homes_0 : decode cX11_homes 0 = .ok (.iconst 0, 1) := by decide +kernel
theorem dX11_homes_1 : decode cX11_homes 1 = .ok (.istore_n 2, 1) := by decide +kernel
theorem dX11_homes_2 : decode cX11_homes 2 = .ok (.iconst 0, 1) := by decide +kernel
theorem dX11_homes_3 : decode cX11_homes 3 = .ok (.istore_n 3, 1) := by decide +kernel
theorem dX11_homes_4 : decode cX11_homes 4 = .ok (.iload_n 3, 1) := by decide +kernel
theorem dX11_homes_5 : decode cX11_homes 5 = .ok (.aload_n 0, 1) := by decide +kernel
theorem dX11_homes_6 : decode cX11_homes 6 = .ok (.getfield 7, 3) := by decide +kernel
theorem dX11_homes_9 : decode cX11_homes 9 = .ok (.iload_n 1, 1) := by decide +kernel
theorem dX11_homes_10 : decode cX11_homes 10 = .ok (.iconst 3, 1) := by decide +kernel
theorem dX11_homes_11 : decode cX11_homes 11 = .ok (.iadd, 1) := by decide +kernel
theorem dX11_homes_12 : decode cX11_homes 12 = .ok (.iaload, 1) := by decide +kernel
theorem dX11_homes_13 : decode cX11_homes 13 = .ok (.if_icmp .ge 26, 3) := by decide +kernel
theorem dX11_homes_16 : decode cX11_homes 16 = .ok (.iload_n 2, 1) := by decide +kernel
theorem dX11_homes_17 : decode cX11_homes 17 = .ok (.aload_n 0, 1) := by decide +kernel
theorem dX11_homes_18 : decode cX11_homes 18 = .ok (.iload_n 1, 1) := by decide +kernel
theorem dX11_homes_19 : decode cX11_homes 19 = .ok (.iload_n 3, 1) := by decide +kernel
theorem dX11_homes_20 : decode cX11_homes 20 = .ok (.invokevirtual 57, 3) := by decide +kernel
theorem dX11_homes_23 : decode cX11_homes 23 = .ok (.ifCond .eq 7, 3) := by decide +kernel
theorem dX11_homes_26 : decode cX11_homes 26 = .ok (.iconst 1, 1) := by decide +kernel
theorem dX11_homes_27 : decode cX11_homes 27 = .ok (.goto 4, 3) := by decide +kernel
theorem dX11_homes_30 : decode cX11_homes 30 = .ok (.iconst 0, 1) := by decide +kernel
theorem dX11_homes_31 : decode cX11_homes 31 = .ok (.iadd, 1) := by decide +kernel
theorem dX11_homes_32 : decode cX11_homes 32 = .ok (.istore_n 2, 1) := by decide +kernel
theorem dX11_homes_33 : decode cX11_homes 33 = .ok (.iinc 3 1, 3) := by decide +kernel
theorem dX11_homes_36 : decode cX11_homes 36 = .ok (.goto (-32), 3) := by decide +kernel
theorem dX11_homes_39 : decode cX11_homes 39 = .ok (.iload_n 2, 1) := by decide +kernel
theorem dX11_homes_40 : decode cX11_homes 40 = .ok (.ireturn, 1) := by decide +kernel
def fX11_homes_31 (k4 : Nat → Int32 → Int32 → Int32 → gx_H → Option (Int32 × gx_H)) (v0 : Nat) (v1 : Int32) (v3 : Int32) (s0 : Int32) (s1 : Int32) (h : gx_H) : Option (Int32 × gx_H) :=
  k4 v0 v1 (s0 + s1) (v3 + (1 : Int32)) h
def bX11_homes_4 (k4 : Nat → Int32 → Int32 → Int32 → gx_H → Option (Int32 × gx_H)) (v0 : Nat) (v1 : Int32) (v2 : Int32) (v3 : Int32) (h : gx_H) : Option (Int32 × gx_H) :=
  (gx_fR h v0 9 0).bind fun a1 =>
  (gx_aI 0 h a1 (v1 + (3 : Int32))).bind fun x2 =>
  if x2 ≤ v3 then
    some (v2, h)
  else
    gx_bd (fX11_isHome v0 v1 v3 h) fun x4 h3 =>
    if x4 = 0 then
      fX11_homes_31 k4 v0 v1 v3 v2 (0 : Int32) h3
    else
      fX11_homes_31 k4 v0 v1 v3 v2 (1 : Int32) h3
def fX11_homes_4 : Nat → Nat → Int32 → Int32 → Int32 → gx_H → Option (Int32 × gx_H)
  | 0 => fun _ _ _ _ _ => none
  | n + 1 => bX11_homes_4 (fX11_homes_4 n)
def fX11_homes (v0 : Nat) (v1 : Int32) (h : gx_H) : Option (Int32 × gx_H) :=
  (gx_isO h v0 9).bind fun _ =>
  fX11_homes_4 gx_N v0 v1 (0 : Int32) (0 : Int32) h
set_option maxRecDepth 100000 in
set_option maxHeartbeats 4000000 in
theorem gX11_homes_31 {E : gx_Env} {d : Nat} (k4 : Nat → Int32 → Int32 → Int32 → gx_H → Option (Int32 × gx_H)) (hk4 : ∀ (v0 : Nat) (v1 : Int32) (v2 : Int32) (v3 : Int32) (h : gx_H), gx_G E RX11 cX11_homes 4 (some .int) false (d + 1) 0 0 4 [some (.ref v0), some (.int v1), some (.int v2), some (.int v3)] [] h (fun x : Int32 => some (.int x)) (k4 v0 v1 v2 v3 h))  : ∀ (v0 : Nat) (v1 : Int32) (v3 : Int32) (s0 : Int32) (s1 : Int32) (h : gx_H), gx_G E RX11 cX11_homes 4 (some .int) false (d + 1) 0 0 31 [some (.ref v0), some (.int v1), none, some (.int v3)] [.int s1, .int s0] h (fun x : Int32 => some (.int x)) (fX11_homes_31 k4 v0 v1 v3 s0 s1 h) := by
  intro v0 v1 v3 s0 s1 h
  unfold fX11_homes_31
  refine gx_iadd dX11_homes_31 ?_
  refine gx_istore_n 2 [some (.ref v0), some (.int v1), some (.int (s0 + s1)), some (.int v3)] dX11_homes_32 rfl (by decide) rfl ?_
  refine gx_iinc (1 : Int32) [some (.ref v0), some (.int v1), some (.int (s0 + s1)), some (.int (v3 + (1 : Int32)))] dX11_homes_33 rfl (by decide) (by decide) rfl ?_
  refine gx_goto 4 dX11_homes_36 (by decide) ?_
  exact gx_sub (hk4 v0 v1 (s0 + s1) (v3 + (1 : Int32)) h) (And.intro rfl (And.intro rfl (And.intro rfl (And.intro rfl True.intro))))
set_option maxRecDepth 100000 in
set_option maxHeartbeats 4000000 in
theorem gbX11_homes_4 {E : gx_Env} {d : Nat}  (k4 : Nat → Int32 → Int32 → Int32 → gx_H → Option (Int32 × gx_H)) (hk4 : ∀ (v0 : Nat) (v1 : Int32) (v2 : Int32) (v3 : Int32) (h : gx_H), gx_G E RX11 cX11_homes 4 (some .int) false (d + 1) 0 0 4 [some (.ref v0), some (.int v1), some (.int v2), some (.int v3)] [] h (fun x : Int32 => some (.int x)) (k4 v0 v1 v2 v3 h))  : ∀ (v0 : Nat) (v1 : Int32) (v2 : Int32) (v3 : Int32) (h : gx_H), gx_G E RX11 cX11_homes 4 (some .int) false (d + 1) 0 0 4 [some (.ref v0), some (.int v1), some (.int v2), some (.int v3)] [] h (fun x : Int32 => some (.int x)) (bX11_homes_4 k4 v0 v1 v2 v3 h) := by
  intro v0 v1 v2 v3 h
  unfold bX11_homes_4
  refine gx_iload_n 3 dX11_homes_4 rfl rfl ?_
  refine gx_aload_n 0 dX11_homes_5 rfl rfl ?_
  refine gx_getR kf_RX11_7 dX11_homes_6 (fun a1 => ?_)
  refine gx_iload_n 1 dX11_homes_9 rfl rfl ?_
  refine gx_iconst (3 : Int32) dX11_homes_10 (by decide) ?_
  refine gx_iadd dX11_homes_11 ?_
  refine gx_iald dX11_homes_12 (fun x2 => ?_)
  refine gx_icmp_ge 39 dX11_homes_13 (by decide) (fun _ => ?_) (fun _ => ?_)
  · refine gx_iload_n 2 dX11_homes_39 rfl rfl ?_
    exact gx_iret dX11_homes_40 rfl
  · refine gx_iload_n 2 dX11_homes_16 rfl rfl ?_
    refine gx_aload_n 0 dX11_homes_17 rfl rfl ?_
    refine gx_iload_n 1 dX11_homes_18 rfl rfl ?_
    refine gx_iload_n 3 dX11_homes_19 rfl rfl ?_
    refine gx_callV (ci := 9) (bc := 0) (bs := 0) (mc := 0) (ms := 0) (em' := (fun x : Int32 => some (.int x))) [.int v1, .int v3] kc_RX11_57 rfl dX11_homes_20 rfl rfl (gx_w8 rfl) (fun x q => (gx_isO_of (by unfold fX11_isHome at q; exact q)).2) (fun _ _ q => okX11_isHome d q) (fun x4 h3 => ?_)
    refine gx_if_eq 30 dX11_homes_23 (by decide) (fun _ => ?_) (fun _ => ?_)
    · refine gx_iconst (0 : Int32) dX11_homes_30 (by decide) ?_
      exact gx_sub (gX11_homes_31 k4 hk4 v0 v1 v3 v2 (0 : Int32) h3) (And.intro rfl (And.intro rfl (And.intro rfl True.intro)))
    · refine gx_iconst (1 : Int32) dX11_homes_26 (by decide) ?_
      refine gx_goto 31 dX11_homes_27 (by decide) ?_
      exact gx_sub (gX11_homes_31 k4 hk4 v0 v1 v3 v2 (1 : Int32) h3) (And.intro rfl (And.intro rfl (And.intro rfl True.intro)))
set_option maxRecDepth 100000 in
set_option maxHeartbeats 4000000 in
theorem gX11_homes_4 {E : gx_Env} {d : Nat}  : ∀ (n : Nat) (v0 : Nat) (v1 : Int32) (v2 : Int32) (v3 : Int32) (h : gx_H), gx_G E RX11 cX11_homes 4 (some .int) false (d + 1) 0 0 4 [some (.ref v0), some (.int v1), some (.int v2), some (.int v3)] [] h (fun x : Int32 => some (.int x)) (fX11_homes_4 n v0 v1 v2 v3 h) := by
  intro n
  induction n with
  | zero => intro v0 v1 v2 v3 h; exact gx_none
  | succ n ih => exact gbX11_homes_4  (fX11_homes_4  n) ih
set_option maxRecDepth 100000 in
set_option maxHeartbeats 4000000 in
theorem geX11_homes {E : gx_Env} {d : Nat} (v0 : Nat) (v1 : Int32) (h : gx_H) : gx_G E RX11 cX11_homes 4 (some .int) false (d + 1) 0 0 0 [some (.ref v0), some (.int v1), none, none] [] h (fun x : Int32 => some (.int x)) (fX11_homes v0 v1 h) := by
  unfold fX11_homes
  refine gx_bind fun _ _ => ?_
  refine gx_iconst (0 : Int32) dX11_homes_0 (by decide) ?_
  refine gx_istore_n 2 [some (.ref v0), some (.int v1), some (.int (0 : Int32)), none] dX11_homes_1 rfl (by decide) rfl ?_
  refine gx_iconst (0 : Int32) dX11_homes_2 (by decide) ?_
  refine gx_istore_n 3 [some (.ref v0), some (.int v1), some (.int (0 : Int32)), some (.int (0 : Int32))] dX11_homes_3 rfl (by decide) rfl ?_
  exact gx_sub (gX11_homes_4 gx_N v0 v1 (0 : Int32) (0 : Int32) h) (And.intro rfl (And.intro rfl (And.intro rfl (And.intro rfl True.intro))))
theorem okX11_homes {E : gx_Env} (d : Nat) {v0 : Nat} {v1 : Int32} {h : gx_H} {r : Int32} {h1 : gx_H} (q : fX11_homes v0 v1 h = some (r, h1)) : gx_M E yX11_homes cX11_homes 4 (some .int) (d + 1) 0 0 [.ref v0, .int v1] h ((fun x : Int32 => some (.int x)) r) h1 := gx_meth (y := yX11_homes) (cc := cX11_homes) (nL := 4) (em := (fun x : Int32 => some (.int x))) (ini := false) [.ref v0, .int v1] (by decide) (by simp [gx_sl]) (fun q => by cases q) (geX11_homes v0 v1 h) q
theorem dX11_throwsOne_0 : decode cX11_throwsOne 0 = .ok (.aload_n 0, 1) := by decide +kernel
theorem dX11_throwsOne_1 : decode cX11_throwsOne 1 = .ok (.getfield 7, 3) := by decide +kernel
theorem dX11_throwsOne_4 : decode cX11_throwsOne 4 = .ok (.iload_n 1, 1) := by decide +kernel
theorem dX11_throwsOne_5 : decode cX11_throwsOne 5 = .ok (.bipush 32, 2) := by decide +kernel
theorem dX11_throwsOne_7 : decode cX11_throwsOne 7 = .ok (.iadd, 1) := by decide +kernel
theorem dX11_throwsOne_8 : decode cX11_throwsOne 8 = .ok (.iload_n 2, 1) := by decide +kernel
theorem dX11_throwsOne_9 : decode cX11_throwsOne 9 = .ok (.iadd, 1) := by decide +kernel
theorem dX11_throwsOne_10 : decode cX11_throwsOne 10 = .ok (.iaload, 1) := by decide +kernel
theorem dX11_throwsOne_11 : decode cX11_throwsOne 11 = .ok (.istore 4, 2) := by decide +kernel
theorem dX11_throwsOne_13 : decode cX11_throwsOne 13 = .ok (.aload_n 0, 1) := by decide +kernel
theorem dX11_throwsOne_14 : decode cX11_throwsOne 14 = .ok (.getfield 7, 3) := by decide +kernel
theorem dX11_throwsOne_17 : decode cX11_throwsOne 17 = .ok (.iload_n 1, 1) := by decide +kernel
theorem dX11_throwsOne_18 : decode cX11_throwsOne 18 = .ok (.bipush 28, 2) := by decide +kernel
theorem dX11_throwsOne_20 : decode cX11_throwsOne 20 = .ok (.iadd, 1) := by decide +kernel
theorem dX11_throwsOne_21 : decode cX11_throwsOne 21 = .ok (.iload_n 2, 1) := by decide +kernel
theorem dX11_throwsOne_22 : decode cX11_throwsOne 22 = .ok (.iadd, 1) := by decide +kernel
theorem dX11_throwsOne_23 : decode cX11_throwsOne 23 = .ok (.iaload, 1) := by decide +kernel
theorem dX11_throwsOne_24 : decode cX11_throwsOne 24 = .ok (.aload_n 0, 1) := by decide +kernel
theorem dX11_throwsOne_25 : decode cX11_throwsOne 25 = .ok (.getfield 7, 3) := by decide +kernel
theorem dX11_throwsOne_28 : decode cX11_throwsOne 28 = .ok (.iload_n 1, 1) := by decide +kernel
theorem dX11_throwsOne_29 : decode cX11_throwsOne 29 = .ok (.iconst 0, 1) := by decide +kernel
theorem dX11_throwsOne_30 : decode cX11_throwsOne 30 = .ok (.iadd, 1) := by decide +kernel
theorem dX11_throwsOne_31 : decode cX11_throwsOne 31 = .ok (.iaload, 1) := by decide +kernel
theorem dX11_throwsOne_32 : decode cX11_throwsOne 32 = .ok (.iload 4, 2) := by decide +kernel
theorem dX11_throwsOne_34 : decode cX11_throwsOne 34 = .ok (.iload_n 3, 1) := by decide +kernel
theorem dX11_throwsOne_35 : decode cX11_throwsOne 35 = .ok (.invokestatic 61, 3) := by decide +kernel
theorem dX11_throwsOne_38 : decode cX11_throwsOne 38 = .ok (.istore 5, 2) := by decide +kernel
theorem dX11_throwsOne_40 : decode cX11_throwsOne 40 = .ok (.iload 5, 2) := by decide +kernel
theorem dX11_throwsOne_42 : decode cX11_throwsOne 42 = .ok (.iload 4, 2) := by decide +kernel
theorem dX11_throwsOne_44 : decode cX11_throwsOne 44 = .ok (.if_icmp .ne 7, 3) := by decide +kernel
theorem dX11_throwsOne_47 : decode cX11_throwsOne 47 = .ok (.iconst (-1), 1) := by decide +kernel
theorem dX11_throwsOne_48 : decode cX11_throwsOne 48 = .ok (.goto 10, 3) := by decide +kernel
theorem dX11_throwsOne_51 : decode cX11_throwsOne 51 = .ok (.aload_n 0, 1) := by decide +kernel
theorem dX11_throwsOne_52 : decode cX11_throwsOne 52 = .ok (.iload_n 1, 1) := by decide +kernel
theorem dX11_throwsOne_53 : decode cX11_throwsOne 53 = .ok (.iload 5, 2) := by decide +kernel
theorem dX11_throwsOne_55 : decode cX11_throwsOne 55 = .ok (.invokevirtual 65, 3) := by decide +kernel
theorem dX11_throwsOne_58 : decode cX11_throwsOne 58 = .ok (.istore 6, 2) := by decide +kernel
theorem dX11_throwsOne_60 : decode cX11_throwsOne 60 = .ok (.iload 6, 2) := by decide +kernel
theorem dX11_throwsOne_62 : decode cX11_throwsOne 62 = .ok (.ifCond .lt 86, 3) := by decide +kernel
theorem dX11_throwsOne_65 : decode cX11_throwsOne 65 = .ok (.aload_n 0, 1) := by decide +kernel
theorem dX11_throwsOne_66 : decode cX11_throwsOne 66 = .ok (.getfield 7, 3) := by decide +kernel
theorem dX11_throwsOne_69 : decode cX11_throwsOne 69 = .ok (.iload_n 1, 1) := by decide +kernel
theorem dX11_throwsOne_70 : decode cX11_throwsOne 70 = .ok (.bipush 22, 2) := by decide +kernel
theorem dX11_throwsOne_72 : decode cX11_throwsOne 72 = .ok (.iadd, 1) := by decide +kernel
theorem dX11_throwsOne_73 : decode cX11_throwsOne 73 = .ok (.iload 6, 2) := by decide +kernel
theorem dX11_throwsOne_75 : decode cX11_throwsOne 75 = .ok (.iadd, 1) := by decide +kernel
theorem dX11_throwsOne_76 : decode cX11_throwsOne 76 = .ok (.iaload, 1) := by decide +kernel
theorem dX11_throwsOne_77 : decode cX11_throwsOne 77 = .ok (.istore 7, 2) := by decide +kernel
theorem dX11_throwsOne_79 : decode cX11_throwsOne 79 = .ok (.aload_n 0, 1) := by decide +kernel
theorem dX11_throwsOne_80 : decode cX11_throwsOne 80 = .ok (.getfield 7, 3) := by decide +kernel
theorem dX11_throwsOne_83 : decode cX11_throwsOne 83 = .ok (.iload_n 1, 1) := by decide +kernel
theorem dX11_throwsOne_84 : decode cX11_throwsOne 84 = .ok (.iconst 4, 1) := by decide +kernel
theorem dX11_throwsOne_85 : decode cX11_throwsOne 85 = .ok (.iadd, 1) := by decide +kernel
theorem dX11_throwsOne_86 : decode cX11_throwsOne 86 = .ok (.iload 6, 2) := by decide +kernel
theorem dX11_throwsOne_88 : decode cX11_throwsOne 88 = .ok (.iadd, 1) := by decide +kernel
theorem dX11_throwsOne_89 : decode cX11_throwsOne 89 = .ok (.iaload, 1) := by decide +kernel
theorem dX11_throwsOne_90 : decode cX11_throwsOne 90 = .ok (.aload_n 0, 1) := by decide +kernel
theorem dX11_throwsOne_91 : decode cX11_throwsOne 91 = .ok (.getfield 7, 3) := by decide +kernel
theorem dX11_throwsOne_94 : decode cX11_throwsOne 94 = .ok (.iload_n 1, 1) := by decide +kernel
theorem dX11_throwsOne_95 : decode cX11_throwsOne 95 = .ok (.iconst 0, 1) := by decide +kernel
theorem dX11_throwsOne_96 : decode cX11_throwsOne 96 = .ok (.iadd, 1) := by decide +kernel
theorem dX11_throwsOne_97 : decode cX11_throwsOne 97 = .ok (.iaload, 1) := by decide +kernel
theorem dX11_throwsOne_98 : decode cX11_throwsOne 98 = .ok (.iload 5, 2) := by decide +kernel
theorem dX11_throwsOne_100 : decode cX11_throwsOne 100 = .ok (.aload_n 0, 1) := by decide +kernel
theorem dX11_throwsOne_101 : decode cX11_throwsOne 101 = .ok (.getfield 7, 3) := by decide +kernel
theorem dX11_throwsOne_104 : decode cX11_throwsOne 104 = .ok (.iload_n 1, 1) := by decide +kernel
theorem dX11_throwsOne_105 : decode cX11_throwsOne 105 = .ok (.bipush 16, 2) := by decide +kernel
theorem dX11_throwsOne_107 : decode cX11_throwsOne 107 = .ok (.iadd, 1) := by decide +kernel
theorem dX11_throwsOne_108 : decode cX11_throwsOne 108 = .ok (.iload 6, 2) := by decide +kernel
theorem dX11_throwsOne_110 : decode cX11_throwsOne 110 = .ok (.iadd, 1) := by decide +kernel
theorem dX11_throwsOne_111 : decode cX11_throwsOne 111 = .ok (.iaload, 1) := by decide +kernel
theorem dX11_throwsOne_112 : decode cX11_throwsOne 112 = .ok (.iload 7, 2) := by decide +kernel
theorem dX11_throwsOne_114 : decode cX11_throwsOne 114 = .ok (.iload_n 3, 1) := by decide +kernel
theorem dX11_throwsOne_115 : decode cX11_throwsOne 115 = .ok (.invokestatic 69, 3) := by decide +kernel
theorem dX11_throwsOne_118 : decode cX11_throwsOne 118 = .ok (.istore 5, 2) := by decide +kernel
theorem dX11_throwsOne_120 : decode cX11_throwsOne 120 = .ok (.aload_n 0, 1) := by decide +kernel
theorem dX11_throwsOne_121 : decode cX11_throwsOne 121 = .ok (.getfield 7, 3) := by decide +kernel
theorem dX11_throwsOne_124 : decode cX11_throwsOne 124 = .ok (.iload_n 1, 1) := by decide +kernel
theorem dX11_throwsOne_125 : decode cX11_throwsOne 125 = .ok (.bipush 22, 2) := by decide +kernel
theorem dX11_throwsOne_127 : decode cX11_throwsOne 127 = .ok (.iadd, 1) := by decide +kernel
theorem dX11_throwsOne_128 : decode cX11_throwsOne 128 = .ok (.iload 6, 2) := by decide +kernel
theorem dX11_throwsOne_130 : decode cX11_throwsOne 130 = .ok (.iadd, 1) := by decide +kernel
theorem dX11_throwsOne_131 : decode cX11_throwsOne 131 = .ok (.iload 7, 2) := by decide +kernel
theorem dX11_throwsOne_133 : decode cX11_throwsOne 133 = .ok (.bipush 99, 2) := by decide +kernel
theorem dX11_throwsOne_135 : decode cX11_throwsOne 135 = .ok (.if_icmp .ge 10, 3) := by decide +kernel
theorem dX11_throwsOne_138 : decode cX11_throwsOne 138 = .ok (.iload 7, 2) := by decide +kernel
theorem dX11_throwsOne_140 : decode cX11_throwsOne 140 = .ok (.iconst 1, 1) := by decide +kernel
theorem dX11_throwsOne_141 : decode cX11_throwsOne 141 = .ok (.iadd, 1) := by decide +kernel
theorem dX11_throwsOne_142 : decode cX11_throwsOne 142 = .ok (.goto 5, 3) := by decide +kernel
theorem dX11_throwsOne_145 : decode cX11_throwsOne 145 = .ok (.iload 7, 2) := by decide +kernel
theorem dX11_throwsOne_147 : decode cX11_throwsOne 147 = .ok (.iastore, 1) := by decide +kernel
theorem dX11_throwsOne_148 : decode cX11_throwsOne 148 = .ok (.aload_n 0, 1) := by decide +kernel
theorem dX11_throwsOne_149 : decode cX11_throwsOne 149 = .ok (.getfield 7, 3) := by decide +kernel
theorem dX11_throwsOne_152 : decode cX11_throwsOne 152 = .ok (.iload_n 1, 1) := by decide +kernel
theorem dX11_throwsOne_153 : decode cX11_throwsOne 153 = .ok (.bipush 32, 2) := by decide +kernel
theorem dX11_throwsOne_155 : decode cX11_throwsOne 155 = .ok (.iadd, 1) := by decide +kernel
theorem dX11_throwsOne_156 : decode cX11_throwsOne 156 = .ok (.iload_n 2, 1) := by decide +kernel
theorem dX11_throwsOne_157 : decode cX11_throwsOne 157 = .ok (.iadd, 1) := by decide +kernel
theorem dX11_throwsOne_158 : decode cX11_throwsOne 158 = .ok (.iload 5, 2) := by decide +kernel
theorem dX11_throwsOne_160 : decode cX11_throwsOne 160 = .ok (.iastore, 1) := by decide +kernel
theorem dX11_throwsOne_161 : decode cX11_throwsOne 161 = .ok (.aload_n 0, 1) := by decide +kernel
theorem dX11_throwsOne_162 : decode cX11_throwsOne 162 = .ok (.getfield 7, 3) := by decide +kernel
theorem dX11_throwsOne_165 : decode cX11_throwsOne 165 = .ok (.iload_n 1, 1) := by decide +kernel
theorem dX11_throwsOne_166 : decode cX11_throwsOne 166 = .ok (.bipush 36, 2) := by decide +kernel
theorem dX11_throwsOne_168 : decode cX11_throwsOne 168 = .ok (.iadd, 1) := by decide +kernel
theorem dX11_throwsOne_169 : decode cX11_throwsOne 169 = .ok (.iload_n 2, 1) := by decide +kernel
theorem dX11_throwsOne_170 : decode cX11_throwsOne 170 = .ok (.iadd, 1) := by decide +kernel
theorem dX11_throwsOne_171 : decode cX11_throwsOne 171 = .ok (.dup2, 1) := by decide +kernel
theorem dX11_throwsOne_172 : decode cX11_throwsOne 172 = .ok (.iaload, 1) := by decide +kernel
theorem dX11_throwsOne_173 : decode cX11_throwsOne 173 = .ok (.aload_n 0, 1) := by decide +kernel
theorem dX11_throwsOne_174 : decode cX11_throwsOne 174 = .ok (.getfield 7, 3) := by decide +kernel
theorem dX11_throwsOne_177 : decode cX11_throwsOne 177 = .ok (.iload_n 1, 1) := by decide +kernel
theorem dX11_throwsOne_178 : decode cX11_throwsOne 178 = .ok (.bipush 36, 2) := by decide +kernel
theorem dX11_throwsOne_180 : decode cX11_throwsOne 180 = .ok (.iadd, 1) := by decide +kernel
theorem dX11_throwsOne_181 : decode cX11_throwsOne 181 = .ok (.iload_n 2, 1) := by decide +kernel
theorem dX11_throwsOne_182 : decode cX11_throwsOne 182 = .ok (.iadd, 1) := by decide +kernel
theorem dX11_throwsOne_183 : decode cX11_throwsOne 183 = .ok (.iaload, 1) := by decide +kernel
theorem dX11_throwsOne_184 : decode cX11_throwsOne 184 = .ok (.sipush 9999, 3) := by decide +kernel
theorem dX11_throwsOne_187 : decode cX11_throwsOne 187 = .ok (.if_icmp .ge 7, 3) := by decide +kernel
theorem dX11_throwsOne_190 : decode cX11_throwsOne 190 = .ok (.iconst 1, 1) := by decide +kernel
theorem dX11_throwsOne_191 : decode cX11_throwsOne 191 = .ok (.goto 4, 3) := by decide +kernel
theorem dX11_throwsOne_194 : decode cX11_throwsOne 194 = .ok (.iconst 0, 1) := by decide +kernel
theorem dX11_throwsOne_195 : decode cX11_throwsOne 195 = .ok (.iadd, 1) := by decide +kernel
theorem dX11_throwsOne_196 : decode cX11_throwsOne 196 = .ok (.iastore, 1) := by decide +kernel
theorem dX11_throwsOne_197 : decode cX11_throwsOne 197 = .ok (.return_, 1) := by decide +kernel
def fX11_throwsOne_195 (s0 : Nat) (s1 : Int32) (s2 : Int32) (s3 : Int32) (h : gx_H) : Option (Unit × gx_H) :=
  (gx_sI 0 h s0 s1 (s2 + s3)).bind fun h29 =>
  some ((), h29)
def fX11_throwsOne_148 (v0 : Nat) (v1 : Int32) (v2 : Int32) (v5 : Int32) (h : gx_H) : Option (Unit × gx_H) :=
  (gx_fR h v0 9 0).bind fun a22 =>
  (gx_sI 0 h a22 ((v1 + (32 : Int32)) + v2) v5).bind fun h23 =>
  (gx_fR h23 v0 9 0).bind fun a24 =>
  (gx_aI 0 h23 a24 ((v1 + (36 : Int32)) + v2)).bind fun x25 =>
  (gx_fR h23 v0 9 0).bind fun a26 =>
  (gx_aI 0 h23 a26 ((v1 + (36 : Int32)) + v2)).bind fun x27 =>
  if (9999 : Int32) ≤ x27 then
    fX11_throwsOne_195 a24 ((v1 + (36 : Int32)) + v2) x25 (0 : Int32) h23
  else
    fX11_throwsOne_195 a24 ((v1 + (36 : Int32)) + v2) x25 (1 : Int32) h23
def fX11_throwsOne_147 (v0 : Nat) (v1 : Int32) (v2 : Int32) (v5 : Int32) (s0 : Nat) (s1 : Int32) (s2 : Int32) (h : gx_H) : Option (Unit × gx_H) :=
  (gx_sI 0 h s0 s1 s2).bind fun h28 =>
  fX11_throwsOne_148 v0 v1 v2 v5 h28
def fX11_throwsOne_58 (v0 : Nat) (v1 : Int32) (v2 : Int32) (v3 : Int32) (v5 : Int32) (s0 : Int32) (h : gx_H) : Option (Unit × gx_H) :=
  if s0 < 0 then
    fX11_throwsOne_148 v0 v1 v2 v5 h
  else
    (gx_fR h v0 9 0).bind fun a11 =>
    (gx_aI 0 h a11 ((v1 + (22 : Int32)) + s0)).bind fun x12 =>
    (gx_fR h v0 9 0).bind fun a13 =>
    (gx_aI 0 h a13 ((v1 + (4 : Int32)) + s0)).bind fun x14 =>
    (gx_fR h v0 9 0).bind fun a15 =>
    (gx_aI 0 h a15 (v1 + (0 : Int32))).bind fun x16 =>
    (gx_fR h v0 9 0).bind fun a17 =>
    (gx_aI 0 h a17 ((v1 + (16 : Int32)) + s0)).bind fun x18 =>
    gx_bd (fX11_leadsBy x14 x16 v5 x18 x12 v3 h) fun x20 h19 =>
    (gx_fR h19 v0 9 0).bind fun a21 =>
    if (99 : Int32) ≤ x12 then
      fX11_throwsOne_147 v0 v1 v2 x20 a21 ((v1 + (22 : Int32)) + s0) x12 h19
    else
      fX11_throwsOne_147 v0 v1 v2 x20 a21 ((v1 + (22 : Int32)) + s0) (x12 + (1 : Int32)) h19
def fX11_throwsOne (v0 : Nat) (v1 : Int32) (v2 : Int32) (v3 : Int32) (h : gx_H) : Option (Unit × gx_H) :=
  (gx_isO h v0 9).bind fun _ =>
  (gx_fR h v0 9 0).bind fun a1 =>
  (gx_aI 0 h a1 ((v1 + (32 : Int32)) + v2)).bind fun x2 =>
  (gx_fR h v0 9 0).bind fun a3 =>
  (gx_aI 0 h a3 ((v1 + (28 : Int32)) + v2)).bind fun x4 =>
  (gx_fR h v0 9 0).bind fun a5 =>
  (gx_aI 0 h a5 (v1 + (0 : Int32))).bind fun x6 =>
  gx_bd (fX11_goesBy x4 x6 x2 v3 h) fun x8 h7 =>
  if x8 = x2 then
    fX11_throwsOne_58 v0 v1 v2 v3 x8 (-1 : Int32) h7
  else
    gx_bd (fX11_linkFrom v0 v1 x8 h7) fun x10 h9 =>
    fX11_throwsOne_58 v0 v1 v2 v3 x8 x10 h9
set_option maxRecDepth 100000 in
set_option maxHeartbeats 4000000 in
theorem gX11_throwsOne_195 {E : gx_Env} {d : Nat}  : ∀ (s0 : Nat) (s1 : Int32) (s2 : Int32) (s3 : Int32) (h : gx_H), gx_G E RX11 cX11_throwsOne 8 none false (d + 3) 0 0 195 [none, none, none, none, none, none, none, none] [.int s3, .int s2, .int s1, .ref s0] h (fun _ : Unit => none) (fX11_throwsOne_195 s0 s1 s2 s3 h) := by
  intro s0 s1 s2 s3 h
  unfold fX11_throwsOne_195
  refine gx_iadd dX11_throwsOne_195 ?_
  refine gx_iast dX11_throwsOne_196 (fun h29 => ?_)
  exact gx_vret dX11_throwsOne_197 rfl
set_option maxRecDepth 100000 in
set_option maxHeartbeats 4000000 in
theorem gX11_throwsOne_148 {E : gx_Env} {d : Nat}  : ∀ (v0 : Nat) (v1 : Int32) (v2 : Int32) (v5 : Int32) (h : gx_H), gx_G E RX11 cX11_throwsOne 8 none false (d + 3) 0 0 148 [some (.ref v0), some (.int v1), some (.int v2), none, none, some (.int v5), none, none] [] h (fun _ : Unit => none) (fX11_throwsOne_148 v0 v1 v2 v5 h) := by
  intro v0 v1 v2 v5 h
  unfold fX11_throwsOne_148
  refine gx_aload_n 0 dX11_throwsOne_148 rfl rfl ?_
  refine gx_getR kf_RX11_7 dX11_throwsOne_149 (fun a22 => ?_)
  refine gx_iload_n 1 dX11_throwsOne_152 rfl rfl ?_
  refine gx_bipush (32 : Int32) dX11_throwsOne_153 (by decide) ?_
  refine gx_iadd dX11_throwsOne_155 ?_
  refine gx_iload_n 2 dX11_throwsOne_156 rfl rfl ?_
  refine gx_iadd dX11_throwsOne_157 ?_
  refine gx_iload dX11_throwsOne_158 rfl ?_
  refine gx_iast dX11_throwsOne_160 (fun h23 => ?_)
  refine gx_aload_n 0 dX11_throwsOne_161 rfl rfl ?_
  refine gx_getR kf_RX11_7 dX11_throwsOne_162 (fun a24 => ?_)
  refine gx_iload_n 1 dX11_throwsOne_165 rfl rfl ?_
  refine gx_bipush (36 : Int32) dX11_throwsOne_166 (by decide) ?_
  refine gx_iadd dX11_throwsOne_168 ?_
  refine gx_iload_n 2 dX11_throwsOne_169 rfl rfl ?_
  refine gx_iadd dX11_throwsOne_170 ?_
  refine gx_dup2 dX11_throwsOne_171 rfl rfl ?_
  refine gx_iald dX11_throwsOne_172 (fun x25 => ?_)
  refine gx_aload_n 0 dX11_throwsOne_173 rfl rfl ?_
  refine gx_getR kf_RX11_7 dX11_throwsOne_174 (fun a26 => ?_)
  refine gx_iload_n 1 dX11_throwsOne_177 rfl rfl ?_
  refine gx_bipush (36 : Int32) dX11_throwsOne_178 (by decide) ?_
  refine gx_iadd dX11_throwsOne_180 ?_
  refine gx_iload_n 2 dX11_throwsOne_181 rfl rfl ?_
  refine gx_iadd dX11_throwsOne_182 ?_
  refine gx_iald dX11_throwsOne_183 (fun x27 => ?_)
  refine gx_sipush (9999 : Int32) dX11_throwsOne_184 (by decide) ?_
  refine gx_icmp_ge 194 dX11_throwsOne_187 (by decide) (fun _ => ?_) (fun _ => ?_)
  · refine gx_iconst (0 : Int32) dX11_throwsOne_194 (by decide) ?_
    exact gx_sub (gX11_throwsOne_195 a24 ((v1 + (36 : Int32)) + v2) x25 (0 : Int32) h23) True.intro
  · refine gx_iconst (1 : Int32) dX11_throwsOne_190 (by decide) ?_
    refine gx_goto 195 dX11_throwsOne_191 (by decide) ?_
    exact gx_sub (gX11_throwsOne_195 a24 ((v1 + (36 : Int32)) + v2) x25 (1 : Int32) h23) True.intro
set_option maxRecDepth 100000 in
set_option maxHeartbeats 4000000 in
theorem gX11_throwsOne_147 {E : gx_Env} {d : Nat}  : ∀ (v0 : Nat) (v1 : Int32) (v2 : Int32) (v5 : Int32) (s0 : Nat) (s1 : Int32) (s2 : Int32) (h : gx_H), gx_G E RX11 cX11_throwsOne 8 none false (d + 3) 0 0 147 [some (.ref v0), some (.int v1), some (.int v2), none, none, some (.int v5), none, none] [.int s2, .int s1, .ref s0] h (fun _ : Unit => none) (fX11_throwsOne_147 v0 v1 v2 v5 s0 s1 s2 h) := by
  intro v0 v1 v2 v5 s0 s1 s2 h
  unfold fX11_throwsOne_147
  refine gx_iast dX11_throwsOne_147 (fun h28 => ?_)
  exact gx_sub (gX11_throwsOne_148 v0 v1 v2 v5 h28) (And.intro rfl (And.intro rfl (And.intro rfl (And.intro rfl True.intro))))
set_option maxRecDepth 100000 in
set_option maxHeartbeats 4000000 in
theorem gX11_throwsOne_58 {E : gx_Env} {d : Nat}  : ∀ (v0 : Nat) (v1 : Int32) (v2 : Int32) (v3 : Int32) (v5 : Int32) (s0 : Int32) (h : gx_H), gx_G E RX11 cX11_throwsOne 8 none false (d + 3) 0 0 58 [some (.ref v0), some (.int v1), some (.int v2), some (.int v3), none, some (.int v5), none, none] [.int s0] h (fun _ : Unit => none) (fX11_throwsOne_58 v0 v1 v2 v3 v5 s0 h) := by
  intro v0 v1 v2 v3 v5 s0 h
  unfold fX11_throwsOne_58
  refine gx_istore [some (.ref v0), some (.int v1), some (.int v2), some (.int v3), none, some (.int v5), some (.int s0), none] dX11_throwsOne_58 (by decide) rfl ?_
  refine gx_iload dX11_throwsOne_60 rfl ?_
  refine gx_if_lt 148 dX11_throwsOne_62 (by decide) (fun _ => ?_) (fun _ => ?_)
  · exact gx_sub (gX11_throwsOne_148 v0 v1 v2 v5 h) (And.intro rfl (And.intro rfl (And.intro rfl (And.intro rfl True.intro))))
  · refine gx_aload_n 0 dX11_throwsOne_65 rfl rfl ?_
    refine gx_getR kf_RX11_7 dX11_throwsOne_66 (fun a11 => ?_)
    refine gx_iload_n 1 dX11_throwsOne_69 rfl rfl ?_
    refine gx_bipush (22 : Int32) dX11_throwsOne_70 (by decide) ?_
    refine gx_iadd dX11_throwsOne_72 ?_
    refine gx_iload dX11_throwsOne_73 rfl ?_
    refine gx_iadd dX11_throwsOne_75 ?_
    refine gx_iald dX11_throwsOne_76 (fun x12 => ?_)
    refine gx_istore [some (.ref v0), some (.int v1), some (.int v2), some (.int v3), none, some (.int v5), some (.int s0), some (.int x12)] dX11_throwsOne_77 (by decide) rfl ?_
    refine gx_aload_n 0 dX11_throwsOne_79 rfl rfl ?_
    refine gx_getR kf_RX11_7 dX11_throwsOne_80 (fun a13 => ?_)
    refine gx_iload_n 1 dX11_throwsOne_83 rfl rfl ?_
    refine gx_iconst (4 : Int32) dX11_throwsOne_84 (by decide) ?_
    refine gx_iadd dX11_throwsOne_85 ?_
    refine gx_iload dX11_throwsOne_86 rfl ?_
    refine gx_iadd dX11_throwsOne_88 ?_
    refine gx_iald dX11_throwsOne_89 (fun x14 => ?_)
    refine gx_aload_n 0 dX11_throwsOne_90 rfl rfl ?_
    refine gx_getR kf_RX11_7 dX11_throwsOne_91 (fun a15 => ?_)
    refine gx_iload_n 1 dX11_throwsOne_94 rfl rfl ?_
    refine gx_iconst (0 : Int32) dX11_throwsOne_95 (by decide) ?_
    refine gx_iadd dX11_throwsOne_96 ?_
    refine gx_iald dX11_throwsOne_97 (fun x16 => ?_)
    refine gx_iload dX11_throwsOne_98 rfl ?_
    refine gx_aload_n 0 dX11_throwsOne_100 rfl rfl ?_
    refine gx_getR kf_RX11_7 dX11_throwsOne_101 (fun a17 => ?_)
    refine gx_iload_n 1 dX11_throwsOne_104 rfl rfl ?_
    refine gx_bipush (16 : Int32) dX11_throwsOne_105 (by decide) ?_
    refine gx_iadd dX11_throwsOne_107 ?_
    refine gx_iload dX11_throwsOne_108 rfl ?_
    refine gx_iadd dX11_throwsOne_110 ?_
    refine gx_iald dX11_throwsOne_111 (fun x18 => ?_)
    refine gx_iload dX11_throwsOne_112 rfl ?_
    refine gx_iload_n 3 dX11_throwsOne_114 rfl rfl ?_
    refine gx_callS (bc := 0) (bs := 0) (mc := 0) (ms := 0) (em' := (fun x : Int32 => some (.int x))) [.int x14, .int x16, .int v5, .int x18, .int x12, .int v3] kc_RX11_69 dX11_throwsOne_115 rfl rfl (gx_w8 rfl) (fun _ _ q => okX11_leadsBy (d + 1) q) (fun x20 h19 => ?_)
    refine gx_istore [some (.ref v0), some (.int v1), some (.int v2), some (.int v3), none, some (.int x20), some (.int s0), some (.int x12)] dX11_throwsOne_118 (by decide) rfl ?_
    refine gx_aload_n 0 dX11_throwsOne_120 rfl rfl ?_
    refine gx_getR kf_RX11_7 dX11_throwsOne_121 (fun a21 => ?_)
    refine gx_iload_n 1 dX11_throwsOne_124 rfl rfl ?_
    refine gx_bipush (22 : Int32) dX11_throwsOne_125 (by decide) ?_
    refine gx_iadd dX11_throwsOne_127 ?_
    refine gx_iload dX11_throwsOne_128 rfl ?_
    refine gx_iadd dX11_throwsOne_130 ?_
    refine gx_iload dX11_throwsOne_131 rfl ?_
    refine gx_bipush (99 : Int32) dX11_throwsOne_133 (by decide) ?_
    refine gx_icmp_ge 145 dX11_throwsOne_135 (by decide) (fun _ => ?_) (fun _ => ?_)
    · refine gx_iload dX11_throwsOne_145 rfl ?_
      exact gx_sub (gX11_throwsOne_147 v0 v1 v2 x20 a21 ((v1 + (22 : Int32)) + s0) x12 h19) (And.intro rfl (And.intro rfl (And.intro rfl (And.intro rfl True.intro))))
    · refine gx_iload dX11_throwsOne_138 rfl ?_
      refine gx_iconst (1 : Int32) dX11_throwsOne_140 (by decide) ?_
      refine gx_iadd dX11_throwsOne_141 ?_
      refine gx_goto 147 dX11_throwsOne_142 (by decide) ?_
      exact gx_sub (gX11_throwsOne_147 v0 v1 v2 x20 a21 ((v1 + (22 : Int32)) + s0) (x12 + (1 : Int32)) h19) (And.intro rfl (And.intro rfl (And.intro rfl (And.intro rfl True.intro))))
set_option maxRecDepth 100000 in
set_option maxHeartbeats 4000000 in
theorem geX11_throwsOne {E : gx_Env} {d : Nat} (v0 : Nat) (v1 : Int32) (v2 : Int32) (v3 : Int32) (h : gx_H) : gx_G E RX11 cX11_throwsOne 8 none false (d + 3) 0 0 0 [some (.ref v0), some (.int v1), some (.int v2), some (.int v3), none, none, none, none] [] h (fun _ : Unit => none) (fX11_throwsOne v0 v1 v2 v3 h) := by
  unfold fX11_throwsOne
  refine gx_bind fun _ _ => ?_
  refine gx_aload_n 0 dX11_throwsOne_0 rfl rfl ?_
  refine gx_getR kf_RX11_7 dX11_throwsOne_1 (fun a1 => ?_)
  refine gx_iload_n 1 dX11_throwsOne_4 rfl rfl ?_
  refine gx_bipush (32 : Int32) dX11_throwsOne_5 (by decide) ?_
  refine gx_iadd dX11_throwsOne_7 ?_
  refine gx_iload_n 2 dX11_throwsOne_8 rfl rfl ?_
  refine gx_iadd dX11_throwsOne_9 ?_
  refine gx_iald dX11_throwsOne_10 (fun x2 => ?_)
  refine gx_istore [some (.ref v0), some (.int v1), some (.int v2), some (.int v3), some (.int x2), none, none, none] dX11_throwsOne_11 (by decide) rfl ?_
  refine gx_aload_n 0 dX11_throwsOne_13 rfl rfl ?_
  refine gx_getR kf_RX11_7 dX11_throwsOne_14 (fun a3 => ?_)
  refine gx_iload_n 1 dX11_throwsOne_17 rfl rfl ?_
  refine gx_bipush (28 : Int32) dX11_throwsOne_18 (by decide) ?_
  refine gx_iadd dX11_throwsOne_20 ?_
  refine gx_iload_n 2 dX11_throwsOne_21 rfl rfl ?_
  refine gx_iadd dX11_throwsOne_22 ?_
  refine gx_iald dX11_throwsOne_23 (fun x4 => ?_)
  refine gx_aload_n 0 dX11_throwsOne_24 rfl rfl ?_
  refine gx_getR kf_RX11_7 dX11_throwsOne_25 (fun a5 => ?_)
  refine gx_iload_n 1 dX11_throwsOne_28 rfl rfl ?_
  refine gx_iconst (0 : Int32) dX11_throwsOne_29 (by decide) ?_
  refine gx_iadd dX11_throwsOne_30 ?_
  refine gx_iald dX11_throwsOne_31 (fun x6 => ?_)
  refine gx_iload dX11_throwsOne_32 rfl ?_
  refine gx_iload_n 3 dX11_throwsOne_34 rfl rfl ?_
  refine gx_callS (bc := 0) (bs := 0) (mc := 0) (ms := 0) (em' := (fun x : Int32 => some (.int x))) [.int x4, .int x6, .int x2, .int v3] kc_RX11_61 dX11_throwsOne_35 rfl rfl (gx_w8 rfl) (fun _ _ q => okX11_goesBy d q) (fun x8 h7 => ?_)
  refine gx_istore [some (.ref v0), some (.int v1), some (.int v2), some (.int v3), some (.int x2), some (.int x8), none, none] dX11_throwsOne_38 (by decide) rfl ?_
  refine gx_iload dX11_throwsOne_40 rfl ?_
  refine gx_iload dX11_throwsOne_42 rfl ?_
  refine gx_icmp_ne 51 dX11_throwsOne_44 (by decide) (fun _ => ?_) (fun _ => ?_)
  · refine gx_aload_n 0 dX11_throwsOne_51 rfl rfl ?_
    refine gx_iload_n 1 dX11_throwsOne_52 rfl rfl ?_
    refine gx_iload dX11_throwsOne_53 rfl ?_
    refine gx_callV (ci := 9) (bc := 0) (bs := 0) (mc := 0) (ms := 0) (em' := (fun x : Int32 => some (.int x))) [.int v1, .int x8] kc_RX11_65 rfl dX11_throwsOne_55 rfl rfl (gx_w8 rfl) (fun x q => (gx_isO_of (by unfold fX11_linkFrom at q; exact q)).2) (fun _ _ q => okX11_linkFrom (d + 2) q) (fun x10 h9 => ?_)
    exact gx_sub (gX11_throwsOne_58 v0 v1 v2 v3 x8 x10 h9) (And.intro rfl (And.intro rfl (And.intro rfl (And.intro rfl (And.intro rfl True.intro)))))
  · refine gx_iconst (-1 : Int32) dX11_throwsOne_47 (by decide) ?_
    refine gx_goto 58 dX11_throwsOne_48 (by decide) ?_
    exact gx_sub (gX11_throwsOne_58 v0 v1 v2 v3 x8 (-1 : Int32) h7) (And.intro rfl (And.intro rfl (And.intro rfl (And.intro rfl (And.intro rfl True.intro)))))
theorem okX11_throwsOne {E : gx_Env} (d : Nat) {v0 : Nat} {v1 : Int32} {v2 : Int32} {v3 : Int32} {h : gx_H} {r : Unit} {h1 : gx_H} (q : fX11_throwsOne v0 v1 v2 v3 h = some (r, h1)) : gx_M E yX11_throwsOne cX11_throwsOne 8 none (d + 3) 0 0 [.ref v0, .int v1, .int v2, .int v3] h ((fun _ : Unit => none) r) h1 := gx_meth (y := yX11_throwsOne) (cc := cX11_throwsOne) (nL := 8) (em := (fun _ : Unit => none)) (ini := false) [.ref v0, .int v1, .int v2, .int v3] (by decide) (by simp [gx_sl]) (fun q => by cases q) (geX11_throwsOne v0 v1 v2 v3 h) q
theorem dX11_addsLink_0 : decode cX11_addsLink 0 = .ok (.aload_n 0, 1) := by decide +kernel
theorem dX11_addsLink_1 : decode cX11_addsLink 1 = .ok (.getfield 7, 3) := by decide +kernel
theorem dX11_addsLink_4 : decode cX11_addsLink 4 = .ok (.iload_n 1, 1) := by decide +kernel
theorem dX11_addsLink_5 : decode cX11_addsLink 5 = .ok (.iconst 2, 1) := by decide +kernel
theorem dX11_addsLink_6 : decode cX11_addsLink 6 = .ok (.iadd, 1) := by decide +kernel
theorem dX11_addsLink_7 : decode cX11_addsLink 7 = .ok (.iaload, 1) := by decide +kernel
theorem dX11_addsLink_8 : decode cX11_addsLink 8 = .ok (.istore 5, 2) := by decide +kernel
theorem dX11_addsLink_10 : decode cX11_addsLink 10 = .ok (.aload_n 0, 1) := by decide +kernel
theorem dX11_addsLink_11 : decode cX11_addsLink 11 = .ok (.getfield 7, 3) := by decide +kernel
theorem dX11_addsLink_14 : decode cX11_addsLink 14 = .ok (.iload_n 1, 1) := by decide +kernel
theorem dX11_addsLink_15 : decode cX11_addsLink 15 = .ok (.iconst 4, 1) := by decide +kernel
theorem dX11_addsLink_16 : decode cX11_addsLink 16 = .ok (.iadd, 1) := by decide +kernel
theorem dX11_addsLink_17 : decode cX11_addsLink 17 = .ok (.iload 5, 2) := by decide +kernel
theorem dX11_addsLink_19 : decode cX11_addsLink 19 = .ok (.iadd, 1) := by decide +kernel
theorem dX11_addsLink_20 : decode cX11_addsLink 20 = .ok (.iload_n 2, 1) := by decide +kernel
theorem dX11_addsLink_21 : decode cX11_addsLink 21 = .ok (.iastore, 1) := by decide +kernel
theorem dX11_addsLink_22 : decode cX11_addsLink 22 = .ok (.aload_n 0, 1) := by decide +kernel
theorem dX11_addsLink_23 : decode cX11_addsLink 23 = .ok (.getfield 7, 3) := by decide +kernel
theorem dX11_addsLink_26 : decode cX11_addsLink 26 = .ok (.iload_n 1, 1) := by decide +kernel
theorem dX11_addsLink_27 : decode cX11_addsLink 27 = .ok (.bipush 10, 2) := by decide +kernel
theorem dX11_addsLink_29 : decode cX11_addsLink 29 = .ok (.iadd, 1) := by decide +kernel
theorem dX11_addsLink_30 : decode cX11_addsLink 30 = .ok (.iload 5, 2) := by decide +kernel
theorem dX11_addsLink_32 : decode cX11_addsLink 32 = .ok (.iadd, 1) := by decide +kernel
theorem dX11_addsLink_33 : decode cX11_addsLink 33 = .ok (.iload_n 3, 1) := by decide +kernel
theorem dX11_addsLink_34 : decode cX11_addsLink 34 = .ok (.iastore, 1) := by decide +kernel
theorem dX11_addsLink_35 : decode cX11_addsLink 35 = .ok (.aload_n 0, 1) := by decide +kernel
theorem dX11_addsLink_36 : decode cX11_addsLink 36 = .ok (.getfield 7, 3) := by decide +kernel
theorem dX11_addsLink_39 : decode cX11_addsLink 39 = .ok (.iload_n 1, 1) := by decide +kernel
theorem dX11_addsLink_40 : decode cX11_addsLink 40 = .ok (.bipush 16, 2) := by decide +kernel
theorem dX11_addsLink_42 : decode cX11_addsLink 42 = .ok (.iadd, 1) := by decide +kernel
theorem dX11_addsLink_43 : decode cX11_addsLink 43 = .ok (.iload 5, 2) := by decide +kernel
theorem dX11_addsLink_45 : decode cX11_addsLink 45 = .ok (.iadd, 1) := by decide +kernel
theorem dX11_addsLink_46 : decode cX11_addsLink 46 = .ok (.iload 4, 2) := by decide +kernel
theorem dX11_addsLink_48 : decode cX11_addsLink 48 = .ok (.iastore, 1) := by decide +kernel
theorem dX11_addsLink_49 : decode cX11_addsLink 49 = .ok (.aload_n 0, 1) := by decide +kernel
theorem dX11_addsLink_50 : decode cX11_addsLink 50 = .ok (.getfield 7, 3) := by decide +kernel
theorem dX11_addsLink_53 : decode cX11_addsLink 53 = .ok (.iload_n 1, 1) := by decide +kernel
theorem dX11_addsLink_54 : decode cX11_addsLink 54 = .ok (.bipush 22, 2) := by decide +kernel
theorem dX11_addsLink_56 : decode cX11_addsLink 56 = .ok (.iadd, 1) := by decide +kernel
theorem dX11_addsLink_57 : decode cX11_addsLink 57 = .ok (.iload 5, 2) := by decide +kernel
theorem dX11_addsLink_59 : decode cX11_addsLink 59 = .ok (.iadd, 1) := by decide +kernel
theorem dX11_addsLink_60 : decode cX11_addsLink 60 = .ok (.iconst 0, 1) := by decide +kernel
theorem dX11_addsLink_61 : decode cX11_addsLink 61 = .ok (.iastore, 1) := by decide +kernel
theorem dX11_addsLink_62 : decode cX11_addsLink 62 = .ok (.aload_n 0, 1) := by decide +kernel
theorem dX11_addsLink_63 : decode cX11_addsLink 63 = .ok (.getfield 7, 3) := by decide +kernel
theorem dX11_addsLink_66 : decode cX11_addsLink 66 = .ok (.iload_n 1, 1) := by decide +kernel
theorem dX11_addsLink_67 : decode cX11_addsLink 67 = .ok (.iconst 2, 1) := by decide +kernel
theorem dX11_addsLink_68 : decode cX11_addsLink 68 = .ok (.iadd, 1) := by decide +kernel
theorem dX11_addsLink_69 : decode cX11_addsLink 69 = .ok (.dup2, 1) := by decide +kernel
theorem dX11_addsLink_70 : decode cX11_addsLink 70 = .ok (.iaload, 1) := by decide +kernel
theorem dX11_addsLink_71 : decode cX11_addsLink 71 = .ok (.iconst 1, 1) := by decide +kernel
theorem dX11_addsLink_72 : decode cX11_addsLink 72 = .ok (.iadd, 1) := by decide +kernel
theorem dX11_addsLink_73 : decode cX11_addsLink 73 = .ok (.iastore, 1) := by decide +kernel
theorem dX11_addsLink_74 : decode cX11_addsLink 74 = .ok (.return_, 1) := by decide +kernel
def fX11_addsLink (v0 : Nat) (v1 : Int32) (v2 : Int32) (v3 : Int32) (v4 : Int32) (h : gx_H) : Option (Unit × gx_H) :=
  (gx_isO h v0 9).bind fun _ =>
  (gx_fR h v0 9 0).bind fun a1 =>
  (gx_aI 0 h a1 (v1 + (2 : Int32))).bind fun x2 =>
  (gx_fR h v0 9 0).bind fun a3 =>
  (gx_sI 0 h a3 ((v1 + (4 : Int32)) + x2) v2).bind fun h4 =>
  (gx_fR h4 v0 9 0).bind fun a5 =>
  (gx_sI 0 h4 a5 ((v1 + (10 : Int32)) + x2) v3).bind fun h6 =>
  (gx_fR h6 v0 9 0).bind fun a7 =>
  (gx_sI 0 h6 a7 ((v1 + (16 : Int32)) + x2) v4).bind fun h8 =>
  (gx_fR h8 v0 9 0).bind fun a9 =>
  (gx_sI 0 h8 a9 ((v1 + (22 : Int32)) + x2) (0 : Int32)).bind fun h10 =>
  (gx_fR h10 v0 9 0).bind fun a11 =>
  (gx_aI 0 h10 a11 (v1 + (2 : Int32))).bind fun x12 =>
  (gx_sI 0 h10 a11 (v1 + (2 : Int32)) (x12 + (1 : Int32))).bind fun h13 =>
  some ((), h13)
set_option maxRecDepth 100000 in
set_option maxHeartbeats 4000000 in
theorem geX11_addsLink {E : gx_Env} {d : Nat} (v0 : Nat) (v1 : Int32) (v2 : Int32) (v3 : Int32) (v4 : Int32) (h : gx_H) : gx_G E RX11 cX11_addsLink 6 none false d 0 0 0 [some (.ref v0), some (.int v1), some (.int v2), some (.int v3), some (.int v4), none] [] h (fun _ : Unit => none) (fX11_addsLink v0 v1 v2 v3 v4 h) := by
  unfold fX11_addsLink
  refine gx_bind fun _ _ => ?_
  refine gx_aload_n 0 dX11_addsLink_0 rfl rfl ?_
  refine gx_getR kf_RX11_7 dX11_addsLink_1 (fun a1 => ?_)
  refine gx_iload_n 1 dX11_addsLink_4 rfl rfl ?_
  refine gx_iconst (2 : Int32) dX11_addsLink_5 (by decide) ?_
  refine gx_iadd dX11_addsLink_6 ?_
  refine gx_iald dX11_addsLink_7 (fun x2 => ?_)
  refine gx_istore [some (.ref v0), some (.int v1), some (.int v2), some (.int v3), some (.int v4), some (.int x2)] dX11_addsLink_8 (by decide) rfl ?_
  refine gx_aload_n 0 dX11_addsLink_10 rfl rfl ?_
  refine gx_getR kf_RX11_7 dX11_addsLink_11 (fun a3 => ?_)
  refine gx_iload_n 1 dX11_addsLink_14 rfl rfl ?_
  refine gx_iconst (4 : Int32) dX11_addsLink_15 (by decide) ?_
  refine gx_iadd dX11_addsLink_16 ?_
  refine gx_iload dX11_addsLink_17 rfl ?_
  refine gx_iadd dX11_addsLink_19 ?_
  refine gx_iload_n 2 dX11_addsLink_20 rfl rfl ?_
  refine gx_iast dX11_addsLink_21 (fun h4 => ?_)
  refine gx_aload_n 0 dX11_addsLink_22 rfl rfl ?_
  refine gx_getR kf_RX11_7 dX11_addsLink_23 (fun a5 => ?_)
  refine gx_iload_n 1 dX11_addsLink_26 rfl rfl ?_
  refine gx_bipush (10 : Int32) dX11_addsLink_27 (by decide) ?_
  refine gx_iadd dX11_addsLink_29 ?_
  refine gx_iload dX11_addsLink_30 rfl ?_
  refine gx_iadd dX11_addsLink_32 ?_
  refine gx_iload_n 3 dX11_addsLink_33 rfl rfl ?_
  refine gx_iast dX11_addsLink_34 (fun h6 => ?_)
  refine gx_aload_n 0 dX11_addsLink_35 rfl rfl ?_
  refine gx_getR kf_RX11_7 dX11_addsLink_36 (fun a7 => ?_)
  refine gx_iload_n 1 dX11_addsLink_39 rfl rfl ?_
  refine gx_bipush (16 : Int32) dX11_addsLink_40 (by decide) ?_
  refine gx_iadd dX11_addsLink_42 ?_
  refine gx_iload dX11_addsLink_43 rfl ?_
  refine gx_iadd dX11_addsLink_45 ?_
  refine gx_iload dX11_addsLink_46 rfl ?_
  refine gx_iast dX11_addsLink_48 (fun h8 => ?_)
  refine gx_aload_n 0 dX11_addsLink_49 rfl rfl ?_
  refine gx_getR kf_RX11_7 dX11_addsLink_50 (fun a9 => ?_)
  refine gx_iload_n 1 dX11_addsLink_53 rfl rfl ?_
  refine gx_bipush (22 : Int32) dX11_addsLink_54 (by decide) ?_
  refine gx_iadd dX11_addsLink_56 ?_
  refine gx_iload dX11_addsLink_57 rfl ?_
  refine gx_iadd dX11_addsLink_59 ?_
  refine gx_iconst (0 : Int32) dX11_addsLink_60 (by decide) ?_
  refine gx_iast dX11_addsLink_61 (fun h10 => ?_)
  refine gx_aload_n 0 dX11_addsLink_62 rfl rfl ?_
  refine gx_getR kf_RX11_7 dX11_addsLink_63 (fun a11 => ?_)
  refine gx_iload_n 1 dX11_addsLink_66 rfl rfl ?_
  refine gx_iconst (2 : Int32) dX11_addsLink_67 (by decide) ?_
  refine gx_iadd dX11_addsLink_68 ?_
  refine gx_dup2 dX11_addsLink_69 rfl rfl ?_
  refine gx_iald dX11_addsLink_70 (fun x12 => ?_)
  refine gx_iconst (1 : Int32) dX11_addsLink_71 (by decide) ?_
  refine gx_iadd dX11_addsLink_72 ?_
  refine gx_iast dX11_addsLink_73 (fun h13 => ?_)
  exact gx_vret dX11_addsLink_74 rfl
theorem okX11_addsLink {E : gx_Env} (d : Nat) {v0 : Nat} {v1 : Int32} {v2 : Int32} {v3 : Int32} {v4 : Int32} {h : gx_H} {r : Unit} {h1 : gx_H} (q : fX11_addsLink v0 v1 v2 v3 v4 h = some (r, h1)) : gx_M E yX11_addsLink cX11_addsLink 6 none d 0 0 [.ref v0, .int v1, .int v2, .int v3, .int v4] h ((fun _ : Unit => none) r) h1 := gx_meth (y := yX11_addsLink) (cc := cX11_addsLink) (nL := 6) (em := (fun _ : Unit => none)) (ini := false) [.ref v0, .int v1, .int v2, .int v3, .int v4] (by decide) (by simp [gx_sl]) (fun q => by cases q) (geX11_addsLink v0 v1 v2 v3 v4 h) q
theorem dX11_addsPlayer_0 : decode cX11_addsPlayer 0 = .ok (.aload_n 0, 1) := by decide +kernel
theorem dX11_addsPlayer_1 : decode cX11_addsPlayer 1 = .ok (.getfield 7, 3) := by decide +kernel
theorem dX11_addsPlayer_4 : decode cX11_addsPlayer 4 = .ok (.iload_n 1, 1) := by decide +kernel
theorem dX11_addsPlayer_5 : decode cX11_addsPlayer 5 = .ok (.iconst 3, 1) := by decide +kernel
theorem dX11_addsPlayer_6 : decode cX11_addsPlayer 6 = .ok (.iadd, 1) := by decide +kernel
theorem dX11_addsPlayer_7 : decode cX11_addsPlayer 7 = .ok (.iaload, 1) := by decide +kernel
theorem dX11_addsPlayer_8 : decode cX11_addsPlayer 8 = .ok (.istore_n 3, 1) := by decide +kernel
theorem dX11_addsPlayer_9 : decode cX11_addsPlayer 9 = .ok (.aload_n 0, 1) := by decide +kernel
theorem dX11_addsPlayer_10 : decode cX11_addsPlayer 10 = .ok (.getfield 7, 3) := by decide +kernel
theorem dX11_addsPlayer_13 : decode cX11_addsPlayer 13 = .ok (.iload_n 1, 1) := by decide +kernel
theorem dX11_addsPlayer_14 : decode cX11_addsPlayer 14 = .ok (.bipush 28, 2) := by decide +kernel
theorem dX11_addsPlayer_16 : decode cX11_addsPlayer 16 = .ok (.iadd, 1) := by decide +kernel
theorem dX11_addsPlayer_17 : decode cX11_addsPlayer 17 = .ok (.iload_n 3, 1) := by decide +kernel
theorem dX11_addsPlayer_18 : decode cX11_addsPlayer 18 = .ok (.iadd, 1) := by decide +kernel
theorem dX11_addsPlayer_19 : decode cX11_addsPlayer 19 = .ok (.iload_n 2, 1) := by decide +kernel
theorem dX11_addsPlayer_20 : decode cX11_addsPlayer 20 = .ok (.iastore, 1) := by decide +kernel
theorem dX11_addsPlayer_21 : decode cX11_addsPlayer 21 = .ok (.aload_n 0, 1) := by decide +kernel
theorem dX11_addsPlayer_22 : decode cX11_addsPlayer 22 = .ok (.getfield 7, 3) := by decide +kernel
theorem dX11_addsPlayer_25 : decode cX11_addsPlayer 25 = .ok (.iload_n 1, 1) := by decide +kernel
theorem dX11_addsPlayer_26 : decode cX11_addsPlayer 26 = .ok (.bipush 32, 2) := by decide +kernel
theorem dX11_addsPlayer_28 : decode cX11_addsPlayer 28 = .ok (.iadd, 1) := by decide +kernel
theorem dX11_addsPlayer_29 : decode cX11_addsPlayer 29 = .ok (.iload_n 3, 1) := by decide +kernel
theorem dX11_addsPlayer_30 : decode cX11_addsPlayer 30 = .ok (.iadd, 1) := by decide +kernel
theorem dX11_addsPlayer_31 : decode cX11_addsPlayer 31 = .ok (.iconst 0, 1) := by decide +kernel
theorem dX11_addsPlayer_32 : decode cX11_addsPlayer 32 = .ok (.iastore, 1) := by decide +kernel
theorem dX11_addsPlayer_33 : decode cX11_addsPlayer 33 = .ok (.aload_n 0, 1) := by decide +kernel
theorem dX11_addsPlayer_34 : decode cX11_addsPlayer 34 = .ok (.getfield 7, 3) := by decide +kernel
theorem dX11_addsPlayer_37 : decode cX11_addsPlayer 37 = .ok (.iload_n 1, 1) := by decide +kernel
theorem dX11_addsPlayer_38 : decode cX11_addsPlayer 38 = .ok (.bipush 36, 2) := by decide +kernel
theorem dX11_addsPlayer_40 : decode cX11_addsPlayer 40 = .ok (.iadd, 1) := by decide +kernel
theorem dX11_addsPlayer_41 : decode cX11_addsPlayer 41 = .ok (.iload_n 3, 1) := by decide +kernel
theorem dX11_addsPlayer_42 : decode cX11_addsPlayer 42 = .ok (.iadd, 1) := by decide +kernel
theorem dX11_addsPlayer_43 : decode cX11_addsPlayer 43 = .ok (.iconst 0, 1) := by decide +kernel
theorem dX11_addsPlayer_44 : decode cX11_addsPlayer 44 = .ok (.iastore, 1) := by decide +kernel
theorem dX11_addsPlayer_45 : decode cX11_addsPlayer 45 = .ok (.aload_n 0, 1) := by decide +kernel
theorem dX11_addsPlayer_46 : decode cX11_addsPlayer 46 = .ok (.getfield 7, 3) := by decide +kernel
theorem dX11_addsPlayer_49 : decode cX11_addsPlayer 49 = .ok (.iload_n 1, 1) := by decide +kernel
theorem dX11_addsPlayer_50 : decode cX11_addsPlayer 50 = .ok (.iconst 3, 1) := by decide +kernel
theorem dX11_addsPlayer_51 : decode cX11_addsPlayer 51 = .ok (.iadd, 1) := by decide +kernel
theorem dX11_addsPlayer_52 : decode cX11_addsPlayer 52 = .ok (.dup2, 1) := by decide +kernel
theorem dX11_addsPlayer_53 : decode cX11_addsPlayer 53 = .ok (.iaload, 1) := by decide +kernel
theorem dX11_addsPlayer_54 : decode cX11_addsPlayer 54 = .ok (.iconst 1, 1) := by decide +kernel
theorem dX11_addsPlayer_55 : decode cX11_addsPlayer 55 = .ok (.iadd, 1) := by decide +kernel
theorem dX11_addsPlayer_56 : decode cX11_addsPlayer 56 = .ok (.iastore, 1) := by decide +kernel
theorem dX11_addsPlayer_57 : decode cX11_addsPlayer 57 = .ok (.return_, 1) := by decide +kernel
def fX11_addsPlayer (v0 : Nat) (v1 : Int32) (v2 : Int32) (h : gx_H) : Option (Unit × gx_H) :=
  (gx_isO h v0 9).bind fun _ =>
  (gx_fR h v0 9 0).bind fun a1 =>
  (gx_aI 0 h a1 (v1 + (3 : Int32))).bind fun x2 =>
  (gx_fR h v0 9 0).bind fun a3 =>
  (gx_sI 0 h a3 ((v1 + (28 : Int32)) + x2) v2).bind fun h4 =>
  (gx_fR h4 v0 9 0).bind fun a5 =>
  (gx_sI 0 h4 a5 ((v1 + (32 : Int32)) + x2) (0 : Int32)).bind fun h6 =>
  (gx_fR h6 v0 9 0).bind fun a7 =>
  (gx_sI 0 h6 a7 ((v1 + (36 : Int32)) + x2) (0 : Int32)).bind fun h8 =>
  (gx_fR h8 v0 9 0).bind fun a9 =>
  (gx_aI 0 h8 a9 (v1 + (3 : Int32))).bind fun x10 =>
  (gx_sI 0 h8 a9 (v1 + (3 : Int32)) (x10 + (1 : Int32))).bind fun h11 =>
  some ((), h11)
set_option maxRecDepth 100000 in
set_option maxHeartbeats 4000000 in
theorem geX11_addsPlayer {E : gx_Env} {d : Nat} (v0 : Nat) (v1 : Int32) (v2 : Int32) (h : gx_H) : gx_G E RX11 cX11_addsPlayer 4 none false d 0 0 0 [some (.ref v0), some (.int v1), some (.int v2), none] [] h (fun _ : Unit => none) (fX11_addsPlayer v0 v1 v2 h) := by
  unfold fX11_addsPlayer
  refine gx_bind fun _ _ => ?_
  refine gx_aload_n 0 dX11_addsPlayer_0 rfl rfl ?_
  refine gx_getR kf_RX11_7 dX11_addsPlayer_1 (fun a1 => ?_)
  refine gx_iload_n 1 dX11_addsPlayer_4 rfl rfl ?_
  refine gx_iconst (3 : Int32) dX11_addsPlayer_5 (by decide) ?_
  refine gx_iadd dX11_addsPlayer_6 ?_
  refine gx_iald dX11_addsPlayer_7 (fun x2 => ?_)
  refine gx_istore_n 3 [some (.ref v0), some (.int v1), some (.int v2), some (.int x2)] dX11_addsPlayer_8 rfl (by decide) rfl ?_
  refine gx_aload_n 0 dX11_addsPlayer_9 rfl rfl ?_
  refine gx_getR kf_RX11_7 dX11_addsPlayer_10 (fun a3 => ?_)
  refine gx_iload_n 1 dX11_addsPlayer_13 rfl rfl ?_
  refine gx_bipush (28 : Int32) dX11_addsPlayer_14 (by decide) ?_
  refine gx_iadd dX11_addsPlayer_16 ?_
  refine gx_iload_n 3 dX11_addsPlayer_17 rfl rfl ?_
  refine gx_iadd dX11_addsPlayer_18 ?_
  refine gx_iload_n 2 dX11_addsPlayer_19 rfl rfl ?_
  refine gx_iast dX11_addsPlayer_20 (fun h4 => ?_)
  refine gx_aload_n 0 dX11_addsPlayer_21 rfl rfl ?_
  refine gx_getR kf_RX11_7 dX11_addsPlayer_22 (fun a5 => ?_)
  refine gx_iload_n 1 dX11_addsPlayer_25 rfl rfl ?_
  refine gx_bipush (32 : Int32) dX11_addsPlayer_26 (by decide) ?_
  refine gx_iadd dX11_addsPlayer_28 ?_
  refine gx_iload_n 3 dX11_addsPlayer_29 rfl rfl ?_
  refine gx_iadd dX11_addsPlayer_30 ?_
  refine gx_iconst (0 : Int32) dX11_addsPlayer_31 (by decide) ?_
  refine gx_iast dX11_addsPlayer_32 (fun h6 => ?_)
  refine gx_aload_n 0 dX11_addsPlayer_33 rfl rfl ?_
  refine gx_getR kf_RX11_7 dX11_addsPlayer_34 (fun a7 => ?_)
  refine gx_iload_n 1 dX11_addsPlayer_37 rfl rfl ?_
  refine gx_bipush (36 : Int32) dX11_addsPlayer_38 (by decide) ?_
  refine gx_iadd dX11_addsPlayer_40 ?_
  refine gx_iload_n 3 dX11_addsPlayer_41 rfl rfl ?_
  refine gx_iadd dX11_addsPlayer_42 ?_
  refine gx_iconst (0 : Int32) dX11_addsPlayer_43 (by decide) ?_
  refine gx_iast dX11_addsPlayer_44 (fun h8 => ?_)
  refine gx_aload_n 0 dX11_addsPlayer_45 rfl rfl ?_
  refine gx_getR kf_RX11_7 dX11_addsPlayer_46 (fun a9 => ?_)
  refine gx_iload_n 1 dX11_addsPlayer_49 rfl rfl ?_
  refine gx_iconst (3 : Int32) dX11_addsPlayer_50 (by decide) ?_
  refine gx_iadd dX11_addsPlayer_51 ?_
  refine gx_dup2 dX11_addsPlayer_52 rfl rfl ?_
  refine gx_iald dX11_addsPlayer_53 (fun x10 => ?_)
  refine gx_iconst (1 : Int32) dX11_addsPlayer_54 (by decide) ?_
  refine gx_iadd dX11_addsPlayer_55 ?_
  refine gx_iast dX11_addsPlayer_56 (fun h11 => ?_)
  exact gx_vret dX11_addsPlayer_57 rfl
theorem okX11_addsPlayer {E : gx_Env} (d : Nat) {v0 : Nat} {v1 : Int32} {v2 : Int32} {h : gx_H} {r : Unit} {h1 : gx_H} (q : fX11_addsPlayer v0 v1 v2 h = some (r, h1)) : gx_M E yX11_addsPlayer cX11_addsPlayer 4 none d 0 0 [.ref v0, .int v1, .int v2] h ((fun _ : Unit => none) r) h1 := gx_meth (y := yX11_addsPlayer) (cc := cX11_addsPlayer) (nL := 4) (em := (fun _ : Unit => none)) (ini := false) [.ref v0, .int v1, .int v2] (by decide) (by simp [gx_sl]) (fun q => by cases q) (geX11_addsPlayer v0 v1 v2 h) q
theorem dX11_board_0 : decode cX11_board 0 = .ok (.iload_n 1, 1) := by decide +kernel
theorem dX11_board_1 : decode cX11_board 1 = .ok (.i2l, 1) := by decide +kernel
theorem dX11_board_2 : decode cX11_board 2 = .ok (.ldc2_w 73, 3) := by decide +kernel
theorem dX11_board_5 : decode cX11_board 5 = .ok (.ldc2_w 75, 3) := by decide +kernel
theorem dX11_board_8 : decode cX11_board 8 = .ok (.invokestatic 39, 3) := by decide +kernel
theorem dX11_board_11 : decode cX11_board 11 = .ok (.ifCond .eq 17, 3) := by decide +kernel
theorem dX11_board_14 : decode cX11_board 14 = .ok (.iload_n 2, 1) := by decide +kernel
theorem dX11_board_15 : decode cX11_board 15 = .ok (.i2l, 1) := by decide +kernel
theorem dX11_board_16 : decode cX11_board 16 = .ok (.ldc2_w 77, 3) := by decide +kernel
theorem dX11_board_19 : decode cX11_board 19 = .ok (.ldc2_w 79, 3) := by decide +kernel
theorem dX11_board_22 : decode cX11_board 22 = .ok (.invokestatic 39, 3) := by decide +kernel
theorem dX11_board_25 : decode cX11_board 25 = .ok (.ifCond .ne 10, 3) := by decide +kernel
theorem dX11_board_28 : decode cX11_board 28 = .ok (.aload_n 0, 1) := by decide +kernel
theorem dX11_board_29 : decode cX11_board 29 = .ok (.bipush (-2), 2) := by decide +kernel
theorem dX11_board_31 : decode cX11_board 31 = .ok (.invokevirtual 81, 3) := by decide +kernel
theorem dX11_board_34 : decode cX11_board 34 = .ok (.ireturn, 1) := by decide +kernel
theorem dX11_board_35 : decode cX11_board 35 = .ok (.aload_n 0, 1) := by decide +kernel
theorem dX11_board_36 : decode cX11_board 36 = .ok (.getfield 7, 3) := by decide +kernel
theorem dX11_board_39 : decode cX11_board 39 = .ok (.iconst 3, 1) := by decide +kernel
theorem dX11_board_40 : decode cX11_board 40 = .ok (.iaload, 1) := by decide +kernel
theorem dX11_board_41 : decode cX11_board 41 = .ok (.istore_n 3, 1) := by decide +kernel
theorem dX11_board_42 : decode cX11_board 42 = .ok (.aload_n 0, 1) := by decide +kernel
theorem dX11_board_43 : decode cX11_board 43 = .ok (.iconst 0, 1) := by decide +kernel
theorem dX11_board_44 : decode cX11_board 44 = .ok (.invokevirtual 84, 3) := by decide +kernel
theorem dX11_board_47 : decode cX11_board 47 = .ok (.aload_n 0, 1) := by decide +kernel
theorem dX11_board_48 : decode cX11_board 48 = .ok (.getfield 7, 3) := by decide +kernel
theorem dX11_board_51 : decode cX11_board 51 = .ok (.iconst 0, 1) := by decide +kernel
theorem dX11_board_52 : decode cX11_board 52 = .ok (.iload_n 1, 1) := by decide +kernel
theorem dX11_board_53 : decode cX11_board 53 = .ok (.iastore, 1) := by decide +kernel
theorem dX11_board_54 : decode cX11_board 54 = .ok (.aload_n 0, 1) := by decide +kernel
theorem dX11_board_55 : decode cX11_board 55 = .ok (.getfield 7, 3) := by decide +kernel
theorem dX11_board_58 : decode cX11_board 58 = .ok (.iconst 1, 1) := by decide +kernel
theorem dX11_board_59 : decode cX11_board 59 = .ok (.iload_n 2, 1) := by decide +kernel
theorem dX11_board_60 : decode cX11_board 60 = .ok (.iastore, 1) := by decide +kernel
theorem dX11_board_61 : decode cX11_board 61 = .ok (.iload_n 3, 1) := by decide +kernel
theorem dX11_board_62 : decode cX11_board 62 = .ok (.ireturn, 1) := by decide +kernel
def fX11_board_28 (v0 : Nat) (h : gx_H) : Option (Int32 × gx_H) :=
  gx_bd (fX11_bad v0 (-2 : Int32) h) fun x14 h13 =>
  some (x14, h13)
def fX11_board (v0 : Nat) (v1 : Int32) (v2 : Int32) (h : gx_H) : Option (Int32 × gx_H) :=
  (gx_isO h v0 9).bind fun _ =>
  gx_bd (fX11_in ((v1).toInt64) (10 : Int64) (40 : Int64) h) fun x2 h1 =>
  if x2 = 0 then
    fX11_board_28 v0 h1
  else
    gx_bd (fX11_in ((v2).toInt64) (2 : Int64) (6 : Int64) h1) fun x4 h3 =>
    if x4 = 0 then
      fX11_board_28 v0 h3
    else
      (gx_fR h3 v0 9 0).bind fun a5 =>
      (gx_aI 0 h3 a5 (3 : Int32)).bind fun x6 =>
      gx_bd (fX11_empties v0 (0 : Int32) h3) fun u8 h7 =>
      (gx_fR h7 v0 9 0).bind fun a9 =>
      (gx_sI 0 h7 a9 (0 : Int32) v1).bind fun h10 =>
      (gx_fR h10 v0 9 0).bind fun a11 =>
      (gx_sI 0 h10 a11 (1 : Int32) v2).bind fun h12 =>
      some (x6, h12)
set_option maxRecDepth 100000 in
set_option maxHeartbeats 4000000 in
theorem gX11_board_28 {E : gx_Env} {d : Nat}  : ∀ (v0 : Nat) (h : gx_H), gx_G E RX11 cX11_board 4 (some .int) false (d + 1) 0 0 28 [some (.ref v0), none, none, none] [] h (fun x : Int32 => some (.int x)) (fX11_board_28 v0 h) := by
  intro v0 h
  unfold fX11_board_28
  refine gx_aload_n 0 dX11_board_28 rfl rfl ?_
  refine gx_bipush (-2 : Int32) dX11_board_29 (by decide) ?_
  refine gx_callV (ci := 9) (bc := 0) (bs := 0) (mc := 0) (ms := 0) (em' := (fun x : Int32 => some (.int x))) [.int (-2 : Int32)] kc_RX11_81 rfl dX11_board_31 rfl rfl (gx_w8 rfl) (fun x q => (gx_isO_of (by unfold fX11_bad at q; exact q)).2) (fun _ _ q => okX11_bad d q) (fun x14 h13 => ?_)
  exact gx_iret dX11_board_34 rfl
set_option maxRecDepth 100000 in
set_option maxHeartbeats 4000000 in
theorem geX11_board {E : gx_Env} {d : Nat} (v0 : Nat) (v1 : Int32) (v2 : Int32) (h : gx_H) : gx_G E RX11 cX11_board 4 (some .int) false (d + 1) 0 0 0 [some (.ref v0), some (.int v1), some (.int v2), none] [] h (fun x : Int32 => some (.int x)) (fX11_board v0 v1 v2 h) := by
  unfold fX11_board
  refine gx_bind fun _ _ => ?_
  refine gx_iload_n 1 dX11_board_0 rfl rfl ?_
  refine gx_i2l dX11_board_1 ?_
  refine gx_ldc2 kk_RX11_73 dX11_board_2 ?_
  refine gx_ldc2 kk_RX11_75 dX11_board_5 ?_
  refine gx_callS (bc := 0) (bs := 0) (mc := 0) (ms := 0) (em' := (fun x : Int32 => some (.int x))) [.long ((v1).toInt64), .long (10 : Int64), .long (40 : Int64)] kc_RX11_39 dX11_board_8 rfl rfl (gx_w8 rfl) (fun _ _ q => okX11_in d q) (fun x2 h1 => ?_)
  refine gx_if_eq 28 dX11_board_11 (by decide) (fun _ => ?_) (fun _ => ?_)
  · exact gx_sub (gX11_board_28 v0 h1) (And.intro rfl True.intro)
  · refine gx_iload_n 2 dX11_board_14 rfl rfl ?_
    refine gx_i2l dX11_board_15 ?_
    refine gx_ldc2 kk_RX11_77 dX11_board_16 ?_
    refine gx_ldc2 kk_RX11_79 dX11_board_19 ?_
    refine gx_callS (bc := 0) (bs := 0) (mc := 0) (ms := 0) (em' := (fun x : Int32 => some (.int x))) [.long ((v2).toInt64), .long (2 : Int64), .long (6 : Int64)] kc_RX11_39 dX11_board_22 rfl rfl (gx_w8 rfl) (fun _ _ q => okX11_in d q) (fun x4 h3 => ?_)
    refine gx_if_ne 35 dX11_board_25 (by decide) (fun _ => ?_) (fun _ => ?_)
    · refine gx_aload_n 0 dX11_board_35 rfl rfl ?_
      refine gx_getR kf_RX11_7 dX11_board_36 (fun a5 => ?_)
      refine gx_iconst (3 : Int32) dX11_board_39 (by decide) ?_
      refine gx_iald dX11_board_40 (fun x6 => ?_)
      refine gx_istore_n 3 [some (.ref v0), some (.int v1), some (.int v2), some (.int x6)] dX11_board_41 rfl (by decide) rfl ?_
      refine gx_aload_n 0 dX11_board_42 rfl rfl ?_
      refine gx_iconst (0 : Int32) dX11_board_43 (by decide) ?_
      refine gx_callV (ci := 9) (bc := 0) (bs := 0) (mc := 0) (ms := 0) (em' := (fun _ : Unit => none)) [.int (0 : Int32)] kc_RX11_84 rfl dX11_board_44 rfl rfl (gx_w8 rfl) (fun x q => (gx_isO_of (by unfold fX11_empties at q; exact q)).2) (fun _ _ q => okX11_empties d q) (fun u8 h7 => ?_)
      refine gx_aload_n 0 dX11_board_47 rfl rfl ?_
      refine gx_getR kf_RX11_7 dX11_board_48 (fun a9 => ?_)
      refine gx_iconst (0 : Int32) dX11_board_51 (by decide) ?_
      refine gx_iload_n 1 dX11_board_52 rfl rfl ?_
      refine gx_iast dX11_board_53 (fun h10 => ?_)
      refine gx_aload_n 0 dX11_board_54 rfl rfl ?_
      refine gx_getR kf_RX11_7 dX11_board_55 (fun a11 => ?_)
      refine gx_iconst (1 : Int32) dX11_board_58 (by decide) ?_
      refine gx_iload_n 2 dX11_board_59 rfl rfl ?_
      refine gx_iast dX11_board_60 (fun h12 => ?_)
      refine gx_iload_n 3 dX11_board_61 rfl rfl ?_
      exact gx_iret dX11_board_62 rfl
    · exact gx_sub (gX11_board_28 v0 h3) (And.intro rfl True.intro)
theorem okX11_board {E : gx_Env} (d : Nat) {v0 : Nat} {v1 : Int32} {v2 : Int32} {h : gx_H} {r : Int32} {h1 : gx_H} (q : fX11_board v0 v1 v2 h = some (r, h1)) : gx_M E yX11_board cX11_board 4 (some .int) (d + 1) 0 0 [.ref v0, .int v1, .int v2] h ((fun x : Int32 => some (.int x)) r) h1 := gx_meth (y := yX11_board) (cc := cX11_board) (nL := 4) (em := (fun x : Int32 => some (.int x))) (ini := false) [.ref v0, .int v1, .int v2] (by decide) (by simp [gx_sl]) (fun q => by cases q) (geX11_board v0 v1 v2 h) q
theorem dX11_die_0 : decode cX11_die 0 = .ok (.iload_n 1, 1) := by decide +kernel
theorem dX11_die_1 : decode cX11_die 1 = .ok (.i2l, 1) := by decide +kernel
theorem dX11_die_2 : decode cX11_die 2 = .ok (.ldc2_w 77, 3) := by decide +kernel
theorem dX11_die_5 : decode cX11_die 5 = .ok (.ldc2_w 79, 3) := by decide +kernel
theorem dX11_die_8 : decode cX11_die 8 = .ok (.invokestatic 39, 3) := by decide +kernel
theorem dX11_die_11 : decode cX11_die 11 = .ok (.ifCond .ne 10, 3) := by decide +kernel
theorem dX11_die_14 : decode cX11_die 14 = .ok (.aload_n 0, 1) := by decide +kernel
theorem dX11_die_15 : decode cX11_die 15 = .ok (.bipush (-2), 2) := by decide +kernel
theorem dX11_die_17 : decode cX11_die 17 = .ok (.invokevirtual 81, 3) := by decide +kernel
theorem dX11_die_20 : decode cX11_die 20 = .ok (.ireturn, 1) := by decide +kernel
theorem dX11_die_21 : decode cX11_die 21 = .ok (.aload_n 0, 1) := by decide +kernel
theorem dX11_die_22 : decode cX11_die 22 = .ok (.getfield 7, 3) := by decide +kernel
theorem dX11_die_25 : decode cX11_die 25 = .ok (.iconst 1, 1) := by decide +kernel
theorem dX11_die_26 : decode cX11_die 26 = .ok (.iaload, 1) := by decide +kernel
theorem dX11_die_27 : decode cX11_die 27 = .ok (.istore_n 2, 1) := by decide +kernel
theorem dX11_die_28 : decode cX11_die 28 = .ok (.aload_n 0, 1) := by decide +kernel
theorem dX11_die_29 : decode cX11_die 29 = .ok (.getfield 7, 3) := by decide +kernel
theorem dX11_die_32 : decode cX11_die 32 = .ok (.iconst 1, 1) := by decide +kernel
theorem dX11_die_33 : decode cX11_die 33 = .ok (.iload_n 1, 1) := by decide +kernel
theorem dX11_die_34 : decode cX11_die 34 = .ok (.iastore, 1) := by decide +kernel
theorem dX11_die_35 : decode cX11_die 35 = .ok (.aload_n 0, 1) := by decide +kernel
theorem dX11_die_36 : decode cX11_die 36 = .ok (.getfield 7, 3) := by decide +kernel
theorem dX11_die_39 : decode cX11_die 39 = .ok (.bipush 90, 2) := by decide +kernel
theorem dX11_die_41 : decode cX11_die 41 = .ok (.iconst 0, 1) := by decide +kernel
theorem dX11_die_42 : decode cX11_die 42 = .ok (.iastore, 1) := by decide +kernel
theorem dX11_die_43 : decode cX11_die 43 = .ok (.iload_n 2, 1) := by decide +kernel
theorem dX11_die_44 : decode cX11_die 44 = .ok (.ireturn, 1) := by decide +kernel
def fX11_die (v0 : Nat) (v1 : Int32) (h : gx_H) : Option (Int32 × gx_H) :=
  (gx_isO h v0 9).bind fun _ =>
  gx_bd (fX11_in ((v1).toInt64) (2 : Int64) (6 : Int64) h) fun x2 h1 =>
  if x2 = 0 then
    gx_bd (fX11_bad v0 (-2 : Int32) h1) fun x10 h9 =>
    some (x10, h9)
  else
    (gx_fR h1 v0 9 0).bind fun a3 =>
    (gx_aI 0 h1 a3 (1 : Int32)).bind fun x4 =>
    (gx_fR h1 v0 9 0).bind fun a5 =>
    (gx_sI 0 h1 a5 (1 : Int32) v1).bind fun h6 =>
    (gx_fR h6 v0 9 0).bind fun a7 =>
    (gx_sI 0 h6 a7 (90 : Int32) (0 : Int32)).bind fun h8 =>
    some (x4, h8)
set_option maxRecDepth 100000 in
set_option maxHeartbeats 4000000 in
theorem geX11_die {E : gx_Env} {d : Nat} (v0 : Nat) (v1 : Int32) (h : gx_H) : gx_G E RX11 cX11_die 3 (some .int) false (d + 1) 0 0 0 [some (.ref v0), some (.int v1), none] [] h (fun x : Int32 => some (.int x)) (fX11_die v0 v1 h) := by
  unfold fX11_die
  refine gx_bind fun _ _ => ?_
  refine gx_iload_n 1 dX11_die_0 rfl rfl ?_
  refine gx_i2l dX11_die_1 ?_
  refine gx_ldc2 kk_RX11_77 dX11_die_2 ?_
  refine gx_ldc2 kk_RX11_79 dX11_die_5 ?_
  refine gx_callS (bc := 0) (bs := 0) (mc := 0) (ms := 0) (em' := (fun x : Int32 => some (.int x))) [.long ((v1).toInt64), .long (2 : Int64), .long (6 : Int64)] kc_RX11_39 dX11_die_8 rfl rfl (gx_w8 rfl) (fun _ _ q => okX11_in d q) (fun x2 h1 => ?_)
  refine gx_if_ne 21 dX11_die_11 (by decide) (fun _ => ?_) (fun _ => ?_)
  · refine gx_aload_n 0 dX11_die_21 rfl rfl ?_
    refine gx_getR kf_RX11_7 dX11_die_22 (fun a3 => ?_)
    refine gx_iconst (1 : Int32) dX11_die_25 (by decide) ?_
    refine gx_iald dX11_die_26 (fun x4 => ?_)
    refine gx_istore_n 2 [some (.ref v0), some (.int v1), some (.int x4)] dX11_die_27 rfl (by decide) rfl ?_
    refine gx_aload_n 0 dX11_die_28 rfl rfl ?_
    refine gx_getR kf_RX11_7 dX11_die_29 (fun a5 => ?_)
    refine gx_iconst (1 : Int32) dX11_die_32 (by decide) ?_
    refine gx_iload_n 1 dX11_die_33 rfl rfl ?_
    refine gx_iast dX11_die_34 (fun h6 => ?_)
    refine gx_aload_n 0 dX11_die_35 rfl rfl ?_
    refine gx_getR kf_RX11_7 dX11_die_36 (fun a7 => ?_)
    refine gx_bipush (90 : Int32) dX11_die_39 (by decide) ?_
    refine gx_iconst (0 : Int32) dX11_die_41 (by decide) ?_
    refine gx_iast dX11_die_42 (fun h8 => ?_)
    refine gx_iload_n 2 dX11_die_43 rfl rfl ?_
    exact gx_iret dX11_die_44 rfl
  · refine gx_aload_n 0 dX11_die_14 rfl rfl ?_
    refine gx_bipush (-2 : Int32) dX11_die_15 (by decide) ?_
    refine gx_callV (ci := 9) (bc := 0) (bs := 0) (mc := 0) (ms := 0) (em' := (fun x : Int32 => some (.int x))) [.int (-2 : Int32)] kc_RX11_81 rfl dX11_die_17 rfl rfl (gx_w8 rfl) (fun x q => (gx_isO_of (by unfold fX11_bad at q; exact q)).2) (fun _ _ q => okX11_bad d q) (fun x10 h9 => ?_)
    exact gx_iret dX11_die_20 rfl
theorem okX11_die {E : gx_Env} (d : Nat) {v0 : Nat} {v1 : Int32} {h : gx_H} {r : Int32} {h1 : gx_H} (q : fX11_die v0 v1 h = some (r, h1)) : gx_M E yX11_die cX11_die 3 (some .int) (d + 1) 0 0 [.ref v0, .int v1] h ((fun x : Int32 => some (.int x)) r) h1 := gx_meth (y := yX11_die) (cc := cX11_die) (nL := 3) (em := (fun x : Int32 => some (.int x))) (ini := false) [.ref v0, .int v1] (by decide) (by simp [gx_sl]) (fun q => by cases q) (geX11_die v0 v1 h) q
theorem dX11_link_0 : decode cX11_link 0 = .ok (.iload_n 1, 1) := by decide +kernel
theorem dX11_link_1 : decode cX11_link 1 = .ok (.i2l, 1) := by decide +kernel
theorem dX11_link_2 : decode cX11_link 2 = .ok (.lconst 0, 1) := by decide +kernel
theorem dX11_link_3 : decode cX11_link 3 = .ok (.ldc2_w 88, 3) := by decide +kernel
theorem dX11_link_6 : decode cX11_link 6 = .ok (.invokestatic 39, 3) := by decide +kernel
theorem dX11_link_9 : decode cX11_link 9 = .ok (.ifCond .eq 34, 3) := by decide +kernel
theorem dX11_link_12 : decode cX11_link 12 = .ok (.iload_n 2, 1) := by decide +kernel
theorem dX11_link_13 : decode cX11_link 13 = .ok (.i2l, 1) := by decide +kernel
theorem dX11_link_14 : decode cX11_link 14 = .ok (.lconst 1, 1) := by decide +kernel
theorem dX11_link_15 : decode cX11_link 15 = .ok (.aload_n 0, 1) := by decide +kernel
theorem dX11_link_16 : decode cX11_link 16 = .ok (.getfield 7, 3) := by decide +kernel
theorem dX11_link_19 : decode cX11_link 19 = .ok (.iconst 0, 1) := by decide +kernel
theorem dX11_link_20 : decode cX11_link 20 = .ok (.iaload, 1) := by decide +kernel
theorem dX11_link_21 : decode cX11_link 21 = .ok (.iconst 1, 1) := by decide +kernel
theorem dX11_link_22 : decode cX11_link 22 = .ok (.isub, 1) := by decide +kernel
theorem dX11_link_23 : decode cX11_link 23 = .ok (.i2l, 1) := by decide +kernel
theorem dX11_link_24 : decode cX11_link 24 = .ok (.invokestatic 39, 3) := by decide +kernel
theorem dX11_link_27 : decode cX11_link 27 = .ok (.ifCond .eq 16, 3) := by decide +kernel
theorem dX11_link_30 : decode cX11_link 30 = .ok (.aload_n 0, 1) := by decide +kernel
theorem dX11_link_31 : decode cX11_link 31 = .ok (.iload_n 3, 1) := by decide +kernel
theorem dX11_link_32 : decode cX11_link 32 = .ok (.invokevirtual 90, 3) := by decide +kernel
theorem dX11_link_35 : decode cX11_link 35 = .ok (.ifCond .eq 8, 3) := by decide +kernel
theorem dX11_link_38 : decode cX11_link 38 = .ok (.iload_n 2, 1) := by decide +kernel
theorem dX11_link_39 : decode cX11_link 39 = .ok (.iload_n 3, 1) := by decide +kernel
theorem dX11_link_40 : decode cX11_link 40 = .ok (.if_icmp .ne 10, 3) := by decide +kernel
theorem dX11_link_43 : decode cX11_link 43 = .ok (.aload_n 0, 1) := by decide +kernel
theorem dX11_link_44 : decode cX11_link 44 = .ok (.bipush (-2), 2) := by decide +kernel
theorem dX11_link_46 : decode cX11_link 46 = .ok (.invokevirtual 81, 3) := by decide +kernel
theorem dX11_link_49 : decode cX11_link 49 = .ok (.ireturn, 1) := by decide +kernel
theorem dX11_link_50 : decode cX11_link 50 = .ok (.aload_n 0, 1) := by decide +kernel
theorem dX11_link_51 : decode cX11_link 51 = .ok (.iconst 0, 1) := by decide +kernel
theorem dX11_link_52 : decode cX11_link 52 = .ok (.iload_n 2, 1) := by decide +kernel
theorem dX11_link_53 : decode cX11_link 53 = .ok (.invokevirtual 65, 3) := by decide +kernel
theorem dX11_link_56 : decode cX11_link 56 = .ok (.ifCond .lt 8, 3) := by decide +kernel
theorem dX11_link_59 : decode cX11_link 59 = .ok (.aload_n 0, 1) := by decide +kernel
theorem dX11_link_60 : decode cX11_link 60 = .ok (.invokevirtual 94, 3) := by decide +kernel
theorem dX11_link_63 : decode cX11_link 63 = .ok (.ireturn, 1) := by decide +kernel
theorem dX11_link_64 : decode cX11_link 64 = .ok (.aload_n 0, 1) := by decide +kernel
theorem dX11_link_65 : decode cX11_link 65 = .ok (.getfield 7, 3) := by decide +kernel
theorem dX11_link_68 : decode cX11_link 68 = .ok (.iconst 2, 1) := by decide +kernel
theorem dX11_link_69 : decode cX11_link 69 = .ok (.iaload, 1) := by decide +kernel
theorem dX11_link_70 : decode cX11_link 70 = .ok (.bipush 6, 2) := by decide +kernel
theorem dX11_link_72 : decode cX11_link 72 = .ok (.if_icmp .ne 8, 3) := by decide +kernel
theorem dX11_link_75 : decode cX11_link 75 = .ok (.aload_n 0, 1) := by decide +kernel
theorem dX11_link_76 : decode cX11_link 76 = .ok (.invokevirtual 98, 3) := by decide +kernel
theorem dX11_link_79 : decode cX11_link 79 = .ok (.ireturn, 1) := by decide +kernel
theorem dX11_link_80 : decode cX11_link 80 = .ok (.aload_n 0, 1) := by decide +kernel
theorem dX11_link_81 : decode cX11_link 81 = .ok (.iconst 0, 1) := by decide +kernel
theorem dX11_link_82 : decode cX11_link 82 = .ok (.iload_n 1, 1) := by decide +kernel
theorem dX11_link_83 : decode cX11_link 83 = .ok (.iload_n 2, 1) := by decide +kernel
theorem dX11_link_84 : decode cX11_link 84 = .ok (.iload_n 3, 1) := by decide +kernel
theorem dX11_link_85 : decode cX11_link 85 = .ok (.invokevirtual 101, 3) := by decide +kernel
theorem dX11_link_88 : decode cX11_link 88 = .ok (.aload_n 0, 1) := by decide +kernel
theorem dX11_link_89 : decode cX11_link 89 = .ok (.getfield 7, 3) := by decide +kernel
theorem dX11_link_92 : decode cX11_link 92 = .ok (.bipush 90, 2) := by decide +kernel
theorem dX11_link_94 : decode cX11_link 94 = .ok (.iconst 0, 1) := by decide +kernel
theorem dX11_link_95 : decode cX11_link 95 = .ok (.iastore, 1) := by decide +kernel
theorem dX11_link_96 : decode cX11_link 96 = .ok (.aload_n 0, 1) := by decide +kernel
theorem dX11_link_97 : decode cX11_link 97 = .ok (.getfield 7, 3) := by decide +kernel
theorem dX11_link_100 : decode cX11_link 100 = .ok (.iconst 2, 1) := by decide +kernel
theorem dX11_link_101 : decode cX11_link 101 = .ok (.iaload, 1) := by decide +kernel
theorem dX11_link_102 : decode cX11_link 102 = .ok (.iconst 1, 1) := by decide +kernel
theorem dX11_link_103 : decode cX11_link 103 = .ok (.isub, 1) := by decide +kernel
theorem dX11_link_104 : decode cX11_link 104 = .ok (.ireturn, 1) := by decide +kernel
def fX11_link_43 (v0 : Nat) (h : gx_H) : Option (Int32 × gx_H) :=
  gx_bd (fX11_bad v0 (-2 : Int32) h) fun x24 h23 =>
  some (x24, h23)
def fX11_link (v0 : Nat) (v1 : Int32) (v2 : Int32) (v3 : Int32) (h : gx_H) : Option (Int32 × gx_H) :=
  (gx_isO h v0 9).bind fun _ =>
  gx_bd (fX11_in ((v1).toInt64) (0 : Int64) (5 : Int64) h) fun x2 h1 =>
  if x2 = 0 then
    fX11_link_43 v0 h1
  else
    (gx_fR h1 v0 9 0).bind fun a3 =>
    (gx_aI 0 h1 a3 (0 : Int32)).bind fun x4 =>
    gx_bd (fX11_in ((v2).toInt64) (1 : Int64) (((x4 - (1 : Int32))).toInt64) h1) fun x6 h5 =>
    if x6 = 0 then
      fX11_link_43 v0 h5
    else
      gx_bd (fX11_isSquare v0 v3 h5) fun x8 h7 =>
      if x8 = 0 then
        fX11_link_43 v0 h7
      else
        if v2 = v3 then
          fX11_link_43 v0 h7
        else
          gx_bd (fX11_linkFrom v0 (0 : Int32) v2 h7) fun x10 h9 =>
          if x10 < 0 then
            (gx_fR h9 v0 9 0).bind fun a11 =>
            (gx_aI 0 h9 a11 (2 : Int32)).bind fun x12 =>
            if x12 = (6 : Int32) then
              gx_bd (fX11_full v0 h9) fun x20 h19 =>
              some (x20, h19)
            else
              gx_bd (fX11_addsLink v0 (0 : Int32) v1 v2 v3 h9) fun u14 h13 =>
              (gx_fR h13 v0 9 0).bind fun a15 =>
              (gx_sI 0 h13 a15 (90 : Int32) (0 : Int32)).bind fun h16 =>
              (gx_fR h16 v0 9 0).bind fun a17 =>
              (gx_aI 0 h16 a17 (2 : Int32)).bind fun x18 =>
              some ((x18 - (1 : Int32)), h16)
          else
            gx_bd (fX11_no v0 h9) fun x22 h21 =>
            some (x22, h21)
set_option maxRecDepth 100000 in
set_option maxHeartbeats 4000000 in
theorem gX11_link_43 {E : gx_Env} {d : Nat}  : ∀ (v0 : Nat) (h : gx_H), gx_G E RX11 cX11_link 4 (some .int) false (d + 2) 0 0 43 [some (.ref v0), none, none, none] [] h (fun x : Int32 => some (.int x)) (fX11_link_43 v0 h) := by
  intro v0 h
  unfold fX11_link_43
  refine gx_aload_n 0 dX11_link_43 rfl rfl ?_
  refine gx_bipush (-2 : Int32) dX11_link_44 (by decide) ?_
  refine gx_callV (ci := 9) (bc := 0) (bs := 0) (mc := 0) (ms := 0) (em' := (fun x : Int32 => some (.int x))) [.int (-2 : Int32)] kc_RX11_81 rfl dX11_link_46 rfl rfl (gx_w8 rfl) (fun x q => (gx_isO_of (by unfold fX11_bad at q; exact q)).2) (fun _ _ q => okX11_bad (d + 1) q) (fun x24 h23 => ?_)
  exact gx_iret dX11_link_49 rfl
set_option maxRecDepth 100000 in
set_option maxHeartbeats 4000000 in
theorem geX11_link {E : gx_Env} {d : Nat} (v0 : Nat) (v1 : Int32) (v2 : Int32) (v3 : Int32) (h : gx_H) : gx_G E RX11 cX11_link 4 (some .int) false (d + 2) 0 0 0 [some (.ref v0), some (.int v1), some (.int v2), some (.int v3)] [] h (fun x : Int32 => some (.int x)) (fX11_link v0 v1 v2 v3 h) := by
  unfold fX11_link
  refine gx_bind fun _ _ => ?_
  refine gx_iload_n 1 dX11_link_0 rfl rfl ?_
  refine gx_i2l dX11_link_1 ?_
  refine gx_lconst (0 : Int64) dX11_link_2 (by decide) ?_
  refine gx_ldc2 kk_RX11_88 dX11_link_3 ?_
  refine gx_callS (bc := 0) (bs := 0) (mc := 0) (ms := 0) (em' := (fun x : Int32 => some (.int x))) [.long ((v1).toInt64), .long (0 : Int64), .long (5 : Int64)] kc_RX11_39 dX11_link_6 rfl rfl (gx_w8 rfl) (fun _ _ q => okX11_in (d + 1) q) (fun x2 h1 => ?_)
  refine gx_if_eq 43 dX11_link_9 (by decide) (fun _ => ?_) (fun _ => ?_)
  · exact gx_sub (gX11_link_43 v0 h1) (And.intro rfl True.intro)
  · refine gx_iload_n 2 dX11_link_12 rfl rfl ?_
    refine gx_i2l dX11_link_13 ?_
    refine gx_lconst (1 : Int64) dX11_link_14 (by decide) ?_
    refine gx_aload_n 0 dX11_link_15 rfl rfl ?_
    refine gx_getR kf_RX11_7 dX11_link_16 (fun a3 => ?_)
    refine gx_iconst (0 : Int32) dX11_link_19 (by decide) ?_
    refine gx_iald dX11_link_20 (fun x4 => ?_)
    refine gx_iconst (1 : Int32) dX11_link_21 (by decide) ?_
    refine gx_isub dX11_link_22 ?_
    refine gx_i2l dX11_link_23 ?_
    refine gx_callS (bc := 0) (bs := 0) (mc := 0) (ms := 0) (em' := (fun x : Int32 => some (.int x))) [.long ((v2).toInt64), .long (1 : Int64), .long (((x4 - (1 : Int32))).toInt64)] kc_RX11_39 dX11_link_24 rfl rfl (gx_w8 rfl) (fun _ _ q => okX11_in (d + 1) q) (fun x6 h5 => ?_)
    refine gx_if_eq 43 dX11_link_27 (by decide) (fun _ => ?_) (fun _ => ?_)
    · exact gx_sub (gX11_link_43 v0 h5) (And.intro rfl True.intro)
    · refine gx_aload_n 0 dX11_link_30 rfl rfl ?_
      refine gx_iload_n 3 dX11_link_31 rfl rfl ?_
      refine gx_callV (ci := 9) (bc := 0) (bs := 0) (mc := 0) (ms := 0) (em' := (fun x : Int32 => some (.int x))) [.int v3] kc_RX11_90 rfl dX11_link_32 rfl rfl (gx_w8 rfl) (fun x q => (gx_isO_of (by unfold fX11_isSquare at q; exact q)).2) (fun _ _ q => okX11_isSquare d q) (fun x8 h7 => ?_)
      refine gx_if_eq 43 dX11_link_35 (by decide) (fun _ => ?_) (fun _ => ?_)
      · exact gx_sub (gX11_link_43 v0 h7) (And.intro rfl True.intro)
      · refine gx_iload_n 2 dX11_link_38 rfl rfl ?_
        refine gx_iload_n 3 dX11_link_39 rfl rfl ?_
        refine gx_icmp_ne 50 dX11_link_40 (by decide) (fun _ => ?_) (fun _ => ?_)
        · refine gx_aload_n 0 dX11_link_50 rfl rfl ?_
          refine gx_iconst (0 : Int32) dX11_link_51 (by decide) ?_
          refine gx_iload_n 2 dX11_link_52 rfl rfl ?_
          refine gx_callV (ci := 9) (bc := 0) (bs := 0) (mc := 0) (ms := 0) (em' := (fun x : Int32 => some (.int x))) [.int (0 : Int32), .int v2] kc_RX11_65 rfl dX11_link_53 rfl rfl (gx_w8 rfl) (fun x q => (gx_isO_of (by unfold fX11_linkFrom at q; exact q)).2) (fun _ _ q => okX11_linkFrom (d + 1) q) (fun x10 h9 => ?_)
          refine gx_if_lt 64 dX11_link_56 (by decide) (fun _ => ?_) (fun _ => ?_)
          · refine gx_aload_n 0 dX11_link_64 rfl rfl ?_
            refine gx_getR kf_RX11_7 dX11_link_65 (fun a11 => ?_)
            refine gx_iconst (2 : Int32) dX11_link_68 (by decide) ?_
            refine gx_iald dX11_link_69 (fun x12 => ?_)
            refine gx_bipush (6 : Int32) dX11_link_70 (by decide) ?_
            refine gx_icmp_ne 80 dX11_link_72 (by decide) (fun _ => ?_) (fun _ => ?_)
            · refine gx_aload_n 0 dX11_link_80 rfl rfl ?_
              refine gx_iconst (0 : Int32) dX11_link_81 (by decide) ?_
              refine gx_iload_n 1 dX11_link_82 rfl rfl ?_
              refine gx_iload_n 2 dX11_link_83 rfl rfl ?_
              refine gx_iload_n 3 dX11_link_84 rfl rfl ?_
              refine gx_callV (ci := 9) (bc := 0) (bs := 0) (mc := 0) (ms := 0) (em' := (fun _ : Unit => none)) [.int (0 : Int32), .int v1, .int v2, .int v3] kc_RX11_101 rfl dX11_link_85 rfl rfl (gx_w8 rfl) (fun x q => (gx_isO_of (by unfold fX11_addsLink at q; exact q)).2) (fun _ _ q => okX11_addsLink (d + 1) q) (fun u14 h13 => ?_)
              refine gx_aload_n 0 dX11_link_88 rfl rfl ?_
              refine gx_getR kf_RX11_7 dX11_link_89 (fun a15 => ?_)
              refine gx_bipush (90 : Int32) dX11_link_92 (by decide) ?_
              refine gx_iconst (0 : Int32) dX11_link_94 (by decide) ?_
              refine gx_iast dX11_link_95 (fun h16 => ?_)
              refine gx_aload_n 0 dX11_link_96 rfl rfl ?_
              refine gx_getR kf_RX11_7 dX11_link_97 (fun a17 => ?_)
              refine gx_iconst (2 : Int32) dX11_link_100 (by decide) ?_
              refine gx_iald dX11_link_101 (fun x18 => ?_)
              refine gx_iconst (1 : Int32) dX11_link_102 (by decide) ?_
              refine gx_isub dX11_link_103 ?_
              exact gx_iret dX11_link_104 rfl
            · refine gx_aload_n 0 dX11_link_75 rfl rfl ?_
              refine gx_callV (ci := 9) (bc := 0) (bs := 0) (mc := 0) (ms := 0) (em' := (fun x : Int32 => some (.int x))) [] kc_RX11_98 rfl dX11_link_76 rfl rfl (gx_w8 rfl) (fun x q => (gx_isO_of (by unfold fX11_full at q; exact q)).2) (fun _ _ q => okX11_full (d + 1) q) (fun x20 h19 => ?_)
              exact gx_iret dX11_link_79 rfl
          · refine gx_aload_n 0 dX11_link_59 rfl rfl ?_
            refine gx_callV (ci := 9) (bc := 0) (bs := 0) (mc := 0) (ms := 0) (em' := (fun x : Int32 => some (.int x))) [] kc_RX11_94 rfl dX11_link_60 rfl rfl (gx_w8 rfl) (fun x q => (gx_isO_of (by unfold fX11_no at q; exact q)).2) (fun _ _ q => okX11_no (d + 1) q) (fun x22 h21 => ?_)
            exact gx_iret dX11_link_63 rfl
        · exact gx_sub (gX11_link_43 v0 h7) (And.intro rfl True.intro)
theorem okX11_link {E : gx_Env} (d : Nat) {v0 : Nat} {v1 : Int32} {v2 : Int32} {v3 : Int32} {h : gx_H} {r : Int32} {h1 : gx_H} (q : fX11_link v0 v1 v2 v3 h = some (r, h1)) : gx_M E yX11_link cX11_link 4 (some .int) (d + 2) 0 0 [.ref v0, .int v1, .int v2, .int v3] h ((fun x : Int32 => some (.int x)) r) h1 := gx_meth (y := yX11_link) (cc := cX11_link) (nL := 4) (em := (fun x : Int32 => some (.int x))) (ini := false) [.ref v0, .int v1, .int v2, .int v3] (by decide) (by simp [gx_sl]) (fun q => by cases q) (geX11_link v0 v1 v2 v3 h) q
theorem dX11_player_0 : decode cX11_player 0 = .ok (.iload_n 1, 1) := by decide +kernel
theorem dX11_player_1 : decode cX11_player 1 = .ok (.i2l, 1) := by decide +kernel
theorem dX11_player_2 : decode cX11_player 2 = .ok (.lconst 0, 1) := by decide +kernel
theorem dX11_player_3 : decode cX11_player 3 = .ok (.ldc2_w 88, 3) := by decide +kernel
theorem dX11_player_6 : decode cX11_player 6 = .ok (.invokestatic 39, 3) := by decide +kernel
theorem dX11_player_9 : decode cX11_player 9 = .ok (.ifCond .ne 10, 3) := by decide +kernel
theorem dX11_player_12 : decode cX11_player 12 = .ok (.aload_n 0, 1) := by decide +kernel
theorem dX11_player_13 : decode cX11_player 13 = .ok (.bipush (-2), 2) := by decide +kernel
theorem dX11_player_15 : decode cX11_player 15 = .ok (.invokevirtual 81, 3) := by decide +kernel
theorem dX11_player_18 : decode cX11_player 18 = .ok (.ireturn, 1) := by decide +kernel
theorem dX11_player_19 : decode cX11_player 19 = .ok (.aload_n 0, 1) := by decide +kernel
theorem dX11_player_20 : decode cX11_player 20 = .ok (.getfield 7, 3) := by decide +kernel
theorem dX11_player_23 : decode cX11_player 23 = .ok (.iconst 3, 1) := by decide +kernel
theorem dX11_player_24 : decode cX11_player 24 = .ok (.iaload, 1) := by decide +kernel
theorem dX11_player_25 : decode cX11_player 25 = .ok (.iconst 4, 1) := by decide +kernel
theorem dX11_player_26 : decode cX11_player 26 = .ok (.if_icmp .ne 8, 3) := by decide +kernel
theorem dX11_player_29 : decode cX11_player 29 = .ok (.aload_n 0, 1) := by decide +kernel
theorem dX11_player_30 : decode cX11_player 30 = .ok (.invokevirtual 98, 3) := by decide +kernel
theorem dX11_player_33 : decode cX11_player 33 = .ok (.ireturn, 1) := by decide +kernel
theorem dX11_player_34 : decode cX11_player 34 = .ok (.aload_n 0, 1) := by decide +kernel
theorem dX11_player_35 : decode cX11_player 35 = .ok (.iconst 0, 1) := by decide +kernel
theorem dX11_player_36 : decode cX11_player 36 = .ok (.iload_n 1, 1) := by decide +kernel
theorem dX11_player_37 : decode cX11_player 37 = .ok (.invokevirtual 105, 3) := by decide +kernel
theorem dX11_player_40 : decode cX11_player 40 = .ok (.aload_n 0, 1) := by decide +kernel
theorem dX11_player_41 : decode cX11_player 41 = .ok (.getfield 7, 3) := by decide +kernel
theorem dX11_player_44 : decode cX11_player 44 = .ok (.bipush 90, 2) := by decide +kernel
theorem dX11_player_46 : decode cX11_player 46 = .ok (.iconst 0, 1) := by decide +kernel
theorem dX11_player_47 : decode cX11_player 47 = .ok (.iastore, 1) := by decide +kernel
theorem dX11_player_48 : decode cX11_player 48 = .ok (.aload_n 0, 1) := by decide +kernel
theorem dX11_player_49 : decode cX11_player 49 = .ok (.getfield 7, 3) := by decide +kernel
theorem dX11_player_52 : decode cX11_player 52 = .ok (.iconst 3, 1) := by decide +kernel
theorem dX11_player_53 : decode cX11_player 53 = .ok (.iaload, 1) := by decide +kernel
theorem dX11_player_54 : decode cX11_player 54 = .ok (.iconst 1, 1) := by decide +kernel
theorem dX11_player_55 : decode cX11_player 55 = .ok (.isub, 1) := by decide +kernel
theorem dX11_player_56 : decode cX11_player 56 = .ok (.ireturn, 1) := by decide +kernel
def fX11_player (v0 : Nat) (v1 : Int32) (h : gx_H) : Option (Int32 × gx_H) :=
  (gx_isO h v0 9).bind fun _ =>
  gx_bd (fX11_in ((v1).toInt64) (0 : Int64) (5 : Int64) h) fun x2 h1 =>
  if x2 = 0 then
    gx_bd (fX11_bad v0 (-2 : Int32) h1) fun x14 h13 =>
    some (x14, h13)
  else
    (gx_fR h1 v0 9 0).bind fun a3 =>
    (gx_aI 0 h1 a3 (3 : Int32)).bind fun x4 =>
    if x4 = (4 : Int32) then
      gx_bd (fX11_full v0 h1) fun x12 h11 =>
      some (x12, h11)
    else
      gx_bd (fX11_addsPlayer v0 (0 : Int32) v1 h1) fun u6 h5 =>
      (gx_fR h5 v0 9 0).bind fun a7 =>
      (gx_sI 0 h5 a7 (90 : Int32) (0 : Int32)).bind fun h8 =>
      (gx_fR h8 v0 9 0).bind fun a9 =>
      (gx_aI 0 h8 a9 (3 : Int32)).bind fun x10 =>
      some ((x10 - (1 : Int32)), h8)
set_option maxRecDepth 100000 in
set_option maxHeartbeats 4000000 in
theorem geX11_player {E : gx_Env} {d : Nat} (v0 : Nat) (v1 : Int32) (h : gx_H) : gx_G E RX11 cX11_player 2 (some .int) false (d + 1) 0 0 0 [some (.ref v0), some (.int v1)] [] h (fun x : Int32 => some (.int x)) (fX11_player v0 v1 h) := by
  unfold fX11_player
  refine gx_bind fun _ _ => ?_
  refine gx_iload_n 1 dX11_player_0 rfl rfl ?_
  refine gx_i2l dX11_player_1 ?_
  refine gx_lconst (0 : Int64) dX11_player_2 (by decide) ?_
  refine gx_ldc2 kk_RX11_88 dX11_player_3 ?_
  refine gx_callS (bc := 0) (bs := 0) (mc := 0) (ms := 0) (em' := (fun x : Int32 => some (.int x))) [.long ((v1).toInt64), .long (0 : Int64), .long (5 : Int64)] kc_RX11_39 dX11_player_6 rfl rfl (gx_w8 rfl) (fun _ _ q => okX11_in d q) (fun x2 h1 => ?_)
  refine gx_if_ne 19 dX11_player_9 (by decide) (fun _ => ?_) (fun _ => ?_)
  · refine gx_aload_n 0 dX11_player_19 rfl rfl ?_
    refine gx_getR kf_RX11_7 dX11_player_20 (fun a3 => ?_)
    refine gx_iconst (3 : Int32) dX11_player_23 (by decide) ?_
    refine gx_iald dX11_player_24 (fun x4 => ?_)
    refine gx_iconst (4 : Int32) dX11_player_25 (by decide) ?_
    refine gx_icmp_ne 34 dX11_player_26 (by decide) (fun _ => ?_) (fun _ => ?_)
    · refine gx_aload_n 0 dX11_player_34 rfl rfl ?_
      refine gx_iconst (0 : Int32) dX11_player_35 (by decide) ?_
      refine gx_iload_n 1 dX11_player_36 rfl rfl ?_
      refine gx_callV (ci := 9) (bc := 0) (bs := 0) (mc := 0) (ms := 0) (em' := (fun _ : Unit => none)) [.int (0 : Int32), .int v1] kc_RX11_105 rfl dX11_player_37 rfl rfl (gx_w8 rfl) (fun x q => (gx_isO_of (by unfold fX11_addsPlayer at q; exact q)).2) (fun _ _ q => okX11_addsPlayer d q) (fun u6 h5 => ?_)
      refine gx_aload_n 0 dX11_player_40 rfl rfl ?_
      refine gx_getR kf_RX11_7 dX11_player_41 (fun a7 => ?_)
      refine gx_bipush (90 : Int32) dX11_player_44 (by decide) ?_
      refine gx_iconst (0 : Int32) dX11_player_46 (by decide) ?_
      refine gx_iast dX11_player_47 (fun h8 => ?_)
      refine gx_aload_n 0 dX11_player_48 rfl rfl ?_
      refine gx_getR kf_RX11_7 dX11_player_49 (fun a9 => ?_)
      refine gx_iconst (3 : Int32) dX11_player_52 (by decide) ?_
      refine gx_iald dX11_player_53 (fun x10 => ?_)
      refine gx_iconst (1 : Int32) dX11_player_54 (by decide) ?_
      refine gx_isub dX11_player_55 ?_
      exact gx_iret dX11_player_56 rfl
    · refine gx_aload_n 0 dX11_player_29 rfl rfl ?_
      refine gx_callV (ci := 9) (bc := 0) (bs := 0) (mc := 0) (ms := 0) (em' := (fun x : Int32 => some (.int x))) [] kc_RX11_98 rfl dX11_player_30 rfl rfl (gx_w8 rfl) (fun x q => (gx_isO_of (by unfold fX11_full at q; exact q)).2) (fun _ _ q => okX11_full d q) (fun x12 h11 => ?_)
      exact gx_iret dX11_player_33 rfl
  · refine gx_aload_n 0 dX11_player_12 rfl rfl ?_
    refine gx_bipush (-2 : Int32) dX11_player_13 (by decide) ?_
    refine gx_callV (ci := 9) (bc := 0) (bs := 0) (mc := 0) (ms := 0) (em' := (fun x : Int32 => some (.int x))) [.int (-2 : Int32)] kc_RX11_81 rfl dX11_player_15 rfl rfl (gx_w8 rfl) (fun x q => (gx_isO_of (by unfold fX11_bad at q; exact q)).2) (fun _ _ q => okX11_bad d q) (fun x14 h13 => ?_)
    exact gx_iret dX11_player_18 rfl
theorem okX11_player {E : gx_Env} (d : Nat) {v0 : Nat} {v1 : Int32} {h : gx_H} {r : Int32} {h1 : gx_H} (q : fX11_player v0 v1 h = some (r, h1)) : gx_M E yX11_player cX11_player 2 (some .int) (d + 1) 0 0 [.ref v0, .int v1] h ((fun x : Int32 => some (.int x)) r) h1 := gx_meth (y := yX11_player) (cc := cX11_player) (nL := 2) (em := (fun x : Int32 => some (.int x))) (ini := false) [.ref v0, .int v1] (by decide) (by simp [gx_sl]) (fun q => by cases q) (geX11_player v0 v1 h) q
theorem dX11_type_0 : decode cX11_type 0 = .ok (.iload_n 1, 1) := by decide +kernel
theorem dX11_type_1 : decode cX11_type 1 = .ok (.i2l, 1) := by decide +kernel
theorem dX11_type_2 : decode cX11_type 2 = .ok (.lconst 0, 1) := by decide +kernel
theorem dX11_type_3 : decode cX11_type 3 = .ok (.ldc2_w 109, 3) := by decide +kernel
theorem dX11_type_6 : decode cX11_type 6 = .ok (.invokestatic 39, 3) := by decide +kernel
theorem dX11_type_9 : decode cX11_type 9 = .ok (.ifCond .ne 10, 3) := by decide +kernel
theorem dX11_type_12 : decode cX11_type 12 = .ok (.aload_n 0, 1) := by decide +kernel
theorem dX11_type_13 : decode cX11_type 13 = .ok (.bipush (-2), 2) := by decide +kernel
theorem dX11_type_15 : decode cX11_type 15 = .ok (.invokevirtual 81, 3) := by decide +kernel
theorem dX11_type_18 : decode cX11_type 18 = .ok (.ireturn, 1) := by decide +kernel
theorem dX11_type_19 : decode cX11_type 19 = .ok (.aload_n 0, 1) := by decide +kernel
theorem dX11_type_20 : decode cX11_type 20 = .ok (.getfield 111, 3) := by decide +kernel
theorem dX11_type_23 : decode cX11_type 23 = .ok (.sipush 150, 3) := by decide +kernel
theorem dX11_type_26 : decode cX11_type 26 = .ok (.if_icmp .ne 8, 3) := by decide +kernel
theorem dX11_type_29 : decode cX11_type 29 = .ok (.aload_n 0, 1) := by decide +kernel
theorem dX11_type_30 : decode cX11_type 30 = .ok (.invokevirtual 98, 3) := by decide +kernel
theorem dX11_type_33 : decode cX11_type 33 = .ok (.ireturn, 1) := by decide +kernel
theorem dX11_type_34 : decode cX11_type 34 = .ok (.aload_n 0, 1) := by decide +kernel
theorem dX11_type_35 : decode cX11_type 35 = .ok (.getfield 17, 3) := by decide +kernel
theorem dX11_type_38 : decode cX11_type 38 = .ok (.aload_n 0, 1) := by decide +kernel
theorem dX11_type_39 : decode cX11_type 39 = .ok (.getfield 111, 3) := by decide +kernel
theorem dX11_type_42 : decode cX11_type 42 = .ok (.iload_n 1, 1) := by decide +kernel
theorem dX11_type_43 : decode cX11_type 43 = .ok (.iastore, 1) := by decide +kernel
theorem dX11_type_44 : decode cX11_type 44 = .ok (.aload_n 0, 1) := by decide +kernel
theorem dX11_type_45 : decode cX11_type 45 = .ok (.dup, 1) := by decide +kernel
theorem dX11_type_46 : decode cX11_type 46 = .ok (.getfield 111, 3) := by decide +kernel
theorem dX11_type_49 : decode cX11_type 49 = .ok (.iconst 1, 1) := by decide +kernel
theorem dX11_type_50 : decode cX11_type 50 = .ok (.iadd, 1) := by decide +kernel
theorem dX11_type_51 : decode cX11_type 51 = .ok (.putfield 111, 3) := by decide +kernel
theorem dX11_type_54 : decode cX11_type 54 = .ok (.aload_n 0, 1) := by decide +kernel
theorem dX11_type_55 : decode cX11_type 55 = .ok (.getfield 111, 3) := by decide +kernel
theorem dX11_type_58 : decode cX11_type 58 = .ok (.ireturn, 1) := by decide +kernel
def fX11_type (v0 : Nat) (v1 : Int32) (h : gx_H) : Option (Int32 × gx_H) :=
  (gx_isO h v0 9).bind fun _ =>
  gx_bd (fX11_in ((v1).toInt64) (0 : Int64) (127 : Int64) h) fun x2 h1 =>
  if x2 = 0 then
    gx_bd (fX11_bad v0 (-2 : Int32) h1) fun x13 h12 =>
    some (x13, h12)
  else
    (gx_fI h1 v0 9 3).bind fun x3 =>
    if x3 = (150 : Int32) then
      gx_bd (fX11_full v0 h1) fun x11 h10 =>
      some (x11, h10)
    else
      (gx_fR h1 v0 9 2).bind fun a4 =>
      (gx_fI h1 v0 9 3).bind fun x5 =>
      (gx_sI 0 h1 a4 x5 v1).bind fun h6 =>
      (gx_fI h6 v0 9 3).bind fun x7 =>
      (gx_pF h6 v0 9 3 (.int (x7 + (1 : Int32)))).bind fun h8 =>
      (gx_fI h8 v0 9 3).bind fun x9 =>
      some (x9, h8)
set_option maxRecDepth 100000 in
set_option maxHeartbeats 4000000 in
theorem geX11_type {E : gx_Env} {d : Nat} (v0 : Nat) (v1 : Int32) (h : gx_H) : gx_G E RX11 cX11_type 2 (some .int) false (d + 1) 0 0 0 [some (.ref v0), some (.int v1)] [] h (fun x : Int32 => some (.int x)) (fX11_type v0 v1 h) := by
  unfold fX11_type
  refine gx_bind fun _ _ => ?_
  refine gx_iload_n 1 dX11_type_0 rfl rfl ?_
  refine gx_i2l dX11_type_1 ?_
  refine gx_lconst (0 : Int64) dX11_type_2 (by decide) ?_
  refine gx_ldc2 kk_RX11_109 dX11_type_3 ?_
  refine gx_callS (bc := 0) (bs := 0) (mc := 0) (ms := 0) (em' := (fun x : Int32 => some (.int x))) [.long ((v1).toInt64), .long (0 : Int64), .long (127 : Int64)] kc_RX11_39 dX11_type_6 rfl rfl (gx_w8 rfl) (fun _ _ q => okX11_in d q) (fun x2 h1 => ?_)
  refine gx_if_ne 19 dX11_type_9 (by decide) (fun _ => ?_) (fun _ => ?_)
  · refine gx_aload_n 0 dX11_type_19 rfl rfl ?_
    refine gx_getI kf_RX11_111 dX11_type_20 (fun x3 => ?_)
    refine gx_sipush (150 : Int32) dX11_type_23 (by decide) ?_
    refine gx_icmp_ne 34 dX11_type_26 (by decide) (fun _ => ?_) (fun _ => ?_)
    · refine gx_aload_n 0 dX11_type_34 rfl rfl ?_
      refine gx_getR kf_RX11_17 dX11_type_35 (fun a4 => ?_)
      refine gx_aload_n 0 dX11_type_38 rfl rfl ?_
      refine gx_getI kf_RX11_111 dX11_type_39 (fun x5 => ?_)
      refine gx_iload_n 1 dX11_type_42 rfl rfl ?_
      refine gx_iast dX11_type_43 (fun h6 => ?_)
      refine gx_aload_n 0 dX11_type_44 rfl rfl ?_
      refine gx_dup dX11_type_45 rfl ?_
      refine gx_getI kf_RX11_111 dX11_type_46 (fun x7 => ?_)
      refine gx_iconst (1 : Int32) dX11_type_49 (by decide) ?_
      refine gx_iadd dX11_type_50 ?_
      refine gx_putI kp_RX11_111 (fun q => by cases q) dX11_type_51 (fun h8 => ?_)
      refine gx_aload_n 0 dX11_type_54 rfl rfl ?_
      refine gx_getI kf_RX11_111 dX11_type_55 (fun x9 => ?_)
      exact gx_iret dX11_type_58 rfl
    · refine gx_aload_n 0 dX11_type_29 rfl rfl ?_
      refine gx_callV (ci := 9) (bc := 0) (bs := 0) (mc := 0) (ms := 0) (em' := (fun x : Int32 => some (.int x))) [] kc_RX11_98 rfl dX11_type_30 rfl rfl (gx_w8 rfl) (fun x q => (gx_isO_of (by unfold fX11_full at q; exact q)).2) (fun _ _ q => okX11_full d q) (fun x11 h10 => ?_)
      exact gx_iret dX11_type_33 rfl
  · refine gx_aload_n 0 dX11_type_12 rfl rfl ?_
    refine gx_bipush (-2 : Int32) dX11_type_13 (by decide) ?_
    refine gx_callV (ci := 9) (bc := 0) (bs := 0) (mc := 0) (ms := 0) (em' := (fun x : Int32 => some (.int x))) [.int (-2 : Int32)] kc_RX11_81 rfl dX11_type_15 rfl rfl (gx_w8 rfl) (fun x q => (gx_isO_of (by unfold fX11_bad at q; exact q)).2) (fun _ _ q => okX11_bad d q) (fun x13 h12 => ?_)
    exact gx_iret dX11_type_18 rfl
theorem okX11_type {E : gx_Env} (d : Nat) {v0 : Nat} {v1 : Int32} {h : gx_H} {r : Int32} {h1 : gx_H} (q : fX11_type v0 v1 h = some (r, h1)) : gx_M E yX11_type cX11_type 2 (some .int) (d + 1) 0 0 [.ref v0, .int v1] h ((fun x : Int32 => some (.int x)) r) h1 := gx_meth (y := yX11_type) (cc := cX11_type) (nL := 2) (em := (fun x : Int32 => some (.int x))) (ini := false) [.ref v0, .int v1] (by decide) (by simp [gx_sl]) (fun q => by cases q) (geX11_type v0 v1 h) q
theorem dX11_clear_0 : decode cX11_clear 0 = .ok (.aload_n 0, 1) := by decide +kernel
theorem dX11_clear_1 : decode cX11_clear 1 = .ok (.getfield 111, 3) := by decide +kernel
theorem dX11_clear_4 : decode cX11_clear 4 = .ok (.istore_n 1, 1) := by decide +kernel
theorem dX11_clear_5 : decode cX11_clear 5 = .ok (.aload_n 0, 1) := by decide +kernel
theorem dX11_clear_6 : decode cX11_clear 6 = .ok (.iconst 0, 1) := by decide +kernel
theorem dX11_clear_7 : decode cX11_clear 7 = .ok (.putfield 111, 3) := by decide +kernel
theorem dX11_clear_10 : decode cX11_clear 10 = .ok (.iload_n 1, 1) := by decide +kernel
theorem dX11_clear_11 : decode cX11_clear 11 = .ok (.ireturn, 1) := by decide +kernel
def fX11_clear (v0 : Nat) (h : gx_H) : Option (Int32 × gx_H) :=
  (gx_isO h v0 9).bind fun _ =>
  (gx_fI h v0 9 3).bind fun x1 =>
  (gx_pF h v0 9 3 (.int (0 : Int32))).bind fun h2 =>
  some (x1, h2)
set_option maxRecDepth 100000 in
set_option maxHeartbeats 4000000 in
theorem geX11_clear {E : gx_Env} {d : Nat} (v0 : Nat) (h : gx_H) : gx_G E RX11 cX11_clear 2 (some .int) false d 0 0 0 [some (.ref v0), none] [] h (fun x : Int32 => some (.int x)) (fX11_clear v0 h) := by
  unfold fX11_clear
  refine gx_bind fun _ _ => ?_
  refine gx_aload_n 0 dX11_clear_0 rfl rfl ?_
  refine gx_getI kf_RX11_111 dX11_clear_1 (fun x1 => ?_)
  refine gx_istore_n 1 [some (.ref v0), some (.int x1)] dX11_clear_4 rfl (by decide) rfl ?_
  refine gx_aload_n 0 dX11_clear_5 rfl rfl ?_
  refine gx_iconst (0 : Int32) dX11_clear_6 (by decide) ?_
  refine gx_putI kp_RX11_111 (fun q => by cases q) dX11_clear_7 (fun h2 => ?_)
  refine gx_iload_n 1 dX11_clear_10 rfl rfl ?_
  exact gx_iret dX11_clear_11 rfl
theorem okX11_clear {E : gx_Env} (d : Nat) {v0 : Nat} {h : gx_H} {r : Int32} {h1 : gx_H} (q : fX11_clear v0 h = some (r, h1)) : gx_M E yX11_clear cX11_clear 2 (some .int) d 0 0 [.ref v0] h ((fun x : Int32 => some (.int x)) r) h1 := gx_meth (y := yX11_clear) (cc := cX11_clear) (nL := 2) (em := (fun x : Int32 => some (.int x))) (ini := false) [.ref v0] (by decide) (by simp [gx_sl]) (fun q => by cases q) (geX11_clear v0 h) q
theorem dX11_byteAt_0 : decode cX11_byteAt 0 = .ok (.iload_n 1, 1) := by decide +kernel
theorem dX11_byteAt_1 : decode cX11_byteAt 1 = .ok (.aload_n 0, 1) := by decide +kernel
theorem dX11_byteAt_2 : decode cX11_byteAt 2 = .ok (.getfield 111, 3) := by decide +kernel
theorem dX11_byteAt_5 : decode cX11_byteAt 5 = .ok (.if_icmp .ge 12, 3) := by decide +kernel
theorem dX11_byteAt_8 : decode cX11_byteAt 8 = .ok (.aload_n 0, 1) := by decide +kernel
theorem dX11_byteAt_9 : decode cX11_byteAt 9 = .ok (.getfield 17, 3) := by decide +kernel
theorem dX11_byteAt_12 : decode cX11_byteAt 12 = .ok (.iload_n 1, 1) := by decide +kernel
theorem dX11_byteAt_13 : decode cX11_byteAt 13 = .ok (.iaload, 1) := by decide +kernel
theorem dX11_byteAt_14 : decode cX11_byteAt 14 = .ok (.goto 4, 3) := by decide +kernel
theorem dX11_byteAt_17 : decode cX11_byteAt 17 = .ok (.iconst (-1), 1) := by decide +kernel
theorem dX11_byteAt_18 : decode cX11_byteAt 18 = .ok (.ireturn, 1) := by decide +kernel
def fX11_byteAt_18 (s0 : Int32) (h : gx_H) : Option (Int32 × gx_H) :=
  some (s0, h)
def fX11_byteAt (v0 : Nat) (v1 : Int32) (h : gx_H) : Option (Int32 × gx_H) :=
  (gx_isO h v0 9).bind fun _ =>
  (gx_fI h v0 9 3).bind fun x1 =>
  if x1 ≤ v1 then
    fX11_byteAt_18 (-1 : Int32) h
  else
    (gx_fR h v0 9 2).bind fun a2 =>
    (gx_aI 0 h a2 v1).bind fun x3 =>
    fX11_byteAt_18 x3 h
set_option maxRecDepth 100000 in
set_option maxHeartbeats 4000000 in
theorem gX11_byteAt_18 {E : gx_Env} {d : Nat}  : ∀ (s0 : Int32) (h : gx_H), gx_G E RX11 cX11_byteAt 2 (some .int) false d 0 0 18 [none, none] [.int s0] h (fun x : Int32 => some (.int x)) (fX11_byteAt_18 s0 h) := by
  intro s0 h
  unfold fX11_byteAt_18
  exact gx_iret dX11_byteAt_18 rfl
set_option maxRecDepth 100000 in
set_option maxHeartbeats 4000000 in
theorem geX11_byteAt {E : gx_Env} {d : Nat} (v0 : Nat) (v1 : Int32) (h : gx_H) : gx_G E RX11 cX11_byteAt 2 (some .int) false d 0 0 0 [some (.ref v0), some (.int v1)] [] h (fun x : Int32 => some (.int x)) (fX11_byteAt v0 v1 h) := by
  unfold fX11_byteAt
  refine gx_bind fun _ _ => ?_
  refine gx_iload_n 1 dX11_byteAt_0 rfl rfl ?_
  refine gx_aload_n 0 dX11_byteAt_1 rfl rfl ?_
  refine gx_getI kf_RX11_111 dX11_byteAt_2 (fun x1 => ?_)
  refine gx_icmp_ge 17 dX11_byteAt_5 (by decide) (fun _ => ?_) (fun _ => ?_)
  · refine gx_iconst (-1 : Int32) dX11_byteAt_17 (by decide) ?_
    exact gx_sub (gX11_byteAt_18 (-1 : Int32) h) True.intro
  · refine gx_aload_n 0 dX11_byteAt_8 rfl rfl ?_
    refine gx_getR kf_RX11_17 dX11_byteAt_9 (fun a2 => ?_)
    refine gx_iload_n 1 dX11_byteAt_12 rfl rfl ?_
    refine gx_iald dX11_byteAt_13 (fun x3 => ?_)
    refine gx_goto 18 dX11_byteAt_14 (by decide) ?_
    exact gx_sub (gX11_byteAt_18 x3 h) True.intro
theorem okX11_byteAt {E : gx_Env} (d : Nat) {v0 : Nat} {v1 : Int32} {h : gx_H} {r : Int32} {h1 : gx_H} (q : fX11_byteAt v0 v1 h = some (r, h1)) : gx_M E yX11_byteAt cX11_byteAt 2 (some .int) d 0 0 [.ref v0, .int v1] h ((fun x : Int32 => some (.int x)) r) h1 := gx_meth (y := yX11_byteAt) (cc := cX11_byteAt) (nL := 2) (em := (fun x : Int32 => some (.int x))) (ini := false) [.ref v0, .int v1] (by decide) (by simp [gx_sl]) (fun q => by cases q) (geX11_byteAt v0 v1 h) q
theorem dX11_blanks_0 : decode cX11_blanks 0 = .ok (.aload_n 0, 1) := by decide +kernel
theorem dX11_blanks_1 : decode cX11_blanks 1 = .ok (.aload_n 0, 1) := by decide +kernel
theorem dX11_blanks_2 : decode cX11_blanks 2 = .ok (.getfield 115, 3) := by decide +kernel
theorem dX11_blanks_5 : decode cX11_blanks 5 = .ok (.invokevirtual 118, 3) := by decide +kernel
theorem dX11_blanks_8 : decode cX11_blanks 8 = .ok (.bipush 32, 2) := by decide +kernel
theorem dX11_blanks_10 : decode cX11_blanks 10 = .ok (.if_icmp .ne 16, 3) := by decide +kernel
theorem dX11_blanks_13 : decode cX11_blanks 13 = .ok (.aload_n 0, 1) := by decide +kernel
theorem dX11_blanks_14 : decode cX11_blanks 14 = .ok (.dup, 1) := by decide +kernel
theorem dX11_blanks_15 : decode cX11_blanks 15 = .ok (.getfield 115, 3) := by decide +kernel
theorem dX11_blanks_18 : decode cX11_blanks 18 = .ok (.iconst 1, 1) := by decide +kernel
theorem dX11_blanks_19 : decode cX11_blanks 19 = .ok (.iadd, 1) := by decide +kernel
theorem dX11_blanks_20 : decode cX11_blanks 20 = .ok (.putfield 115, 3) := by decide +kernel
theorem dX11_blanks_23 : decode cX11_blanks 23 = .ok (.goto (-23), 3) := by decide +kernel
theorem dX11_blanks_26 : decode cX11_blanks 26 = .ok (.aload_n 0, 1) := by decide +kernel
theorem dX11_blanks_27 : decode cX11_blanks 27 = .ok (.aload_n 0, 1) := by decide +kernel
theorem dX11_blanks_28 : decode cX11_blanks 28 = .ok (.getfield 115, 3) := by decide +kernel
theorem dX11_blanks_31 : decode cX11_blanks 31 = .ok (.putfield 121, 3) := by decide +kernel
theorem dX11_blanks_34 : decode cX11_blanks 34 = .ok (.return_, 1) := by decide +kernel
def bX11_blanks_0 (k0 : Nat → gx_H → Option (Unit × gx_H)) (v0 : Nat) (h : gx_H) : Option (Unit × gx_H) :=
  (gx_fI h v0 9 7).bind fun x1 =>
  gx_bd (fX11_byteAt v0 x1 h) fun x3 h2 =>
  if x3 = (32 : Int32) then
    (gx_fI h2 v0 9 7).bind fun x6 =>
    (gx_pF h2 v0 9 7 (.int (x6 + (1 : Int32)))).bind fun h7 =>
    k0 v0 h7
  else
    (gx_fI h2 v0 9 7).bind fun x4 =>
    (gx_pF h2 v0 9 8 (.int x4)).bind fun h5 =>
    some ((), h5)
def fX11_blanks_0 : Nat → Nat → gx_H → Option (Unit × gx_H)
  | 0 => fun _ _ => none
  | n + 1 => bX11_blanks_0 (fX11_blanks_0 n)
def fX11_blanks (v0 : Nat) (h : gx_H) : Option (Unit × gx_H) :=
  (gx_isO h v0 9).bind fun _ =>
  fX11_blanks_0 gx_N v0 h
set_option maxRecDepth 100000 in
set_option maxHeartbeats 4000000 in
theorem gbX11_blanks_0 {E : gx_Env} {d : Nat}  (k0 : Nat → gx_H → Option (Unit × gx_H)) (hk0 : ∀ (v0 : Nat) (h : gx_H), gx_G E RX11 cX11_blanks 1 none false (d + 1) 0 0 0 [some (.ref v0)] [] h (fun _ : Unit => none) (k0 v0 h))  : ∀ (v0 : Nat) (h : gx_H), gx_G E RX11 cX11_blanks 1 none false (d + 1) 0 0 0 [some (.ref v0)] [] h (fun _ : Unit => none) (bX11_blanks_0 k0 v0 h) := by
  intro v0 h
  unfold bX11_blanks_0
  refine gx_aload_n 0 dX11_blanks_0 rfl rfl ?_
  refine gx_aload_n 0 dX11_blanks_1 rfl rfl ?_
  refine gx_getI kf_RX11_115 dX11_blanks_2 (fun x1 => ?_)
  refine gx_callV (ci := 9) (bc := 0) (bs := 0) (mc := 0) (ms := 0) (em' := (fun x : Int32 => some (.int x))) [.int x1] kc_RX11_118 rfl dX11_blanks_5 rfl rfl (gx_w8 rfl) (fun x q => (gx_isO_of (by unfold fX11_byteAt at q; exact q)).2) (fun _ _ q => okX11_byteAt d q) (fun x3 h2 => ?_)
  refine gx_bipush (32 : Int32) dX11_blanks_8 (by decide) ?_
  refine gx_icmp_ne 26 dX11_blanks_10 (by decide) (fun _ => ?_) (fun _ => ?_)
  · refine gx_aload_n 0 dX11_blanks_26 rfl rfl ?_
    refine gx_aload_n 0 dX11_blanks_27 rfl rfl ?_
    refine gx_getI kf_RX11_115 dX11_blanks_28 (fun x4 => ?_)
    refine gx_putI kp_RX11_121 (fun q => by cases q) dX11_blanks_31 (fun h5 => ?_)
    exact gx_vret dX11_blanks_34 rfl
  · refine gx_aload_n 0 dX11_blanks_13 rfl rfl ?_
    refine gx_dup dX11_blanks_14 rfl ?_
    refine gx_getI kf_RX11_115 dX11_blanks_15 (fun x6 => ?_)
    refine gx_iconst (1 : Int32) dX11_blanks_18 (by decide) ?_
    refine gx_iadd dX11_blanks_19 ?_
    refine gx_putI kp_RX11_115 (fun q => by cases q) dX11_blanks_20 (fun h7 => ?_)
    refine gx_goto 0 dX11_blanks_23 (by decide) ?_
    exact gx_sub (hk0 v0 h7) (And.intro rfl True.intro)
set_option maxRecDepth 100000 in
set_option maxHeartbeats 4000000 in
theorem gX11_blanks_0 {E : gx_Env} {d : Nat}  : ∀ (n : Nat) (v0 : Nat) (h : gx_H), gx_G E RX11 cX11_blanks 1 none false (d + 1) 0 0 0 [some (.ref v0)] [] h (fun _ : Unit => none) (fX11_blanks_0 n v0 h) := by
  intro n
  induction n with
  | zero => intro v0 h; exact gx_none
  | succ n ih => exact gbX11_blanks_0  (fX11_blanks_0  n) ih
set_option maxRecDepth 100000 in
set_option maxHeartbeats 4000000 in
theorem geX11_blanks {E : gx_Env} {d : Nat} (v0 : Nat) (h : gx_H) : gx_G E RX11 cX11_blanks 1 none false (d + 1) 0 0 0 [some (.ref v0)] [] h (fun _ : Unit => none) (fX11_blanks v0 h) := by
  unfold fX11_blanks
  refine gx_bind fun _ _ => ?_
  exact gx_sub (gX11_blanks_0 gx_N v0 h) (And.intro rfl True.intro)
theorem okX11_blanks {E : gx_Env} (d : Nat) {v0 : Nat} {h : gx_H} {r : Unit} {h1 : gx_H} (q : fX11_blanks v0 h = some (r, h1)) : gx_M E yX11_blanks cX11_blanks 1 none (d + 1) 0 0 [.ref v0] h ((fun _ : Unit => none) r) h1 := gx_meth (y := yX11_blanks) (cc := cX11_blanks) (nL := 1) (em := (fun _ : Unit => none)) (ini := false) [.ref v0] (by decide) (by simp [gx_sl]) (fun q => by cases q) (geX11_blanks v0 h) q
