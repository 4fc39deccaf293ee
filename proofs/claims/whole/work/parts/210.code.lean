theorem dX11_rests_0 : decode cX11_rests 0 = .ok (.iconst 1, 1) := by decide +kernel
theorem dX11_rests_1 : decode cX11_rests 1 = .ok (.istore_n 3, 1) := by decide +kernel
theorem dX11_rests_2 : decode cX11_rests 2 = .ok (.iconst 1, 1) := by decide +kernel
theorem dX11_rests_3 : decode cX11_rests 3 = .ok (.istore 4, 2) := by decide +kernel
theorem dX11_rests_5 : decode cX11_rests 5 = .ok (.iload 4, 2) := by decide +kernel
theorem dX11_rests_7 : decode cX11_rests 7 = .ok (.aload_n 0, 1) := by decide +kernel
theorem dX11_rests_8 : decode cX11_rests 8 = .ok (.getfield 7, 3) := by decide +kernel
theorem dX11_rests_11 : decode cX11_rests 11 = .ok (.iconst 1, 1) := by decide +kernel
theorem dX11_rests_12 : decode cX11_rests 12 = .ok (.iaload, 1) := by decide +kernel
theorem dX11_rests_13 : decode cX11_rests 13 = .ok (.if_icmp .gt 71, 3) := by decide +kernel
theorem dX11_rests_16 : decode cX11_rests 16 = .ok (.iload_n 3, 1) := by decide +kernel
theorem dX11_rests_17 : decode cX11_rests 17 = .ok (.ifCond .eq 59, 3) := by decide +kernel
theorem dX11_rests_20 : decode cX11_rests 20 = .ok (.aload_n 0, 1) := by decide +kernel
theorem dX11_rests_21 : decode cX11_rests 21 = .ok (.getfield 33, 3) := by decide +kernel
theorem dX11_rests_24 : decode cX11_rests 24 = .ok (.bipush 7, 2) := by decide +kernel
theorem dX11_rests_26 : decode cX11_rests 26 = .ok (.iload 4, 2) := by decide +kernel
theorem dX11_rests_28 : decode cX11_rests 28 = .ok (.imul, 1) := by decide +kernel
theorem dX11_rests_29 : decode cX11_rests 29 = .ok (.iload_n 2, 1) := by decide +kernel
theorem dX11_rests_30 : decode cX11_rests 30 = .ok (.iadd, 1) := by decide +kernel
theorem dX11_rests_31 : decode cX11_rests 31 = .ok (.iaload, 1) := by decide +kernel
theorem dX11_rests_32 : decode cX11_rests 32 = .ok (.aload_n 0, 1) := by decide +kernel
theorem dX11_rests_33 : decode cX11_rests 33 = .ok (.getfield 33, 3) := by decide +kernel
theorem dX11_rests_36 : decode cX11_rests 36 = .ok (.bipush 7, 2) := by decide +kernel
theorem dX11_rests_38 : decode cX11_rests 38 = .ok (.iload_n 1, 1) := by decide +kernel
theorem dX11_rests_39 : decode cX11_rests 39 = .ok (.imul, 1) := by decide +kernel
theorem dX11_rests_40 : decode cX11_rests 40 = .ok (.iload_n 2, 1) := by decide +kernel
theorem dX11_rests_41 : decode cX11_rests 41 = .ok (.iadd, 1) := by decide +kernel
theorem dX11_rests_42 : decode cX11_rests 42 = .ok (.iaload, 1) := by decide +kernel
theorem dX11_rests_43 : decode cX11_rests 43 = .ok (.if_icmp .gt 33, 3) := by decide +kernel
theorem dX11_rests_46 : decode cX11_rests 46 = .ok (.aload_n 0, 1) := by decide +kernel
theorem dX11_rests_47 : decode cX11_rests 47 = .ok (.getfield 36, 3) := by decide +kernel
theorem dX11_rests_50 : decode cX11_rests 50 = .ok (.bipush 7, 2) := by decide +kernel
theorem dX11_rests_52 : decode cX11_rests 52 = .ok (.iload_n 1, 1) := by decide +kernel
theorem dX11_rests_53 : decode cX11_rests 53 = .ok (.imul, 1) := by decide +kernel
theorem dX11_rests_54 : decode cX11_rests 54 = .ok (.iload 4, 2) := by decide +kernel
theorem dX11_rests_56 : decode cX11_rests 56 = .ok (.iadd, 1) := by decide +kernel
theorem dX11_rests_57 : decode cX11_rests 57 = .ok (.iaload, 1) := by decide +kernel
theorem dX11_rests_58 : decode cX11_rests 58 = .ok (.aload_n 0, 1) := by decide +kernel
theorem dX11_rests_59 : decode cX11_rests 59 = .ok (.getfield 36, 3) := by decide +kernel
theorem dX11_rests_62 : decode cX11_rests 62 = .ok (.bipush 7, 2) := by decide +kernel
theorem dX11_rests_64 : decode cX11_rests 64 = .ok (.iload_n 1, 1) := by decide +kernel
theorem dX11_rests_65 : decode cX11_rests 65 = .ok (.imul, 1) := by decide +kernel
theorem dX11_rests_66 : decode cX11_rests 66 = .ok (.iload_n 2, 1) := by decide +kernel
theorem dX11_rests_67 : decode cX11_rests 67 = .ok (.iadd, 1) := by decide +kernel
theorem dX11_rests_68 : decode cX11_rests 68 = .ok (.iaload, 1) := by decide +kernel
theorem dX11_rests_69 : decode cX11_rests 69 = .ok (.if_icmp .gt 7, 3) := by decide +kernel
theorem dX11_rests_72 : decode cX11_rests 72 = .ok (.iconst 1, 1) := by decide +kernel
theorem dX11_rests_73 : decode cX11_rests 73 = .ok (.goto 4, 3) := by decide +kernel
theorem dX11_rests_76 : decode cX11_rests 76 = .ok (.iconst 0, 1) := by decide +kernel
theorem dX11_rests_77 : decode cX11_rests 77 = .ok (.istore_n 3, 1) := by decide +kernel
theorem dX11_rests_78 : decode cX11_rests 78 = .ok (.iinc 4 1, 3) := by decide +kernel
theorem dX11_rests_81 : decode cX11_rests 81 = .ok (.goto (-76), 3) := by decide +kernel
theorem dX11_rests_84 : decode cX11_rests 84 = .ok (.iload_n 3, 1) := by decide +kernel
theorem dX11_rests_85 : decode cX11_rests 85 = .ok (.ireturn, 1) := by decide +kernel
def fX11_rests_77 (k5 : Nat → Int32 → Int32 → Int32 → Int32 → gx_H → Option (Int32 × gx_H)) (v0 : Nat) (v1 : Int32) (v2 : Int32) (v4 : Int32) (s0 : Int32) (h : gx_H) : Option (Int32 × gx_H) :=
  k5 v0 v1 v2 s0 (v4 + (1 : Int32)) h
def fX11_rests_76 (k5 : Nat → Int32 → Int32 → Int32 → Int32 → gx_H → Option (Int32 × gx_H)) (v0 : Nat) (v1 : Int32) (v2 : Int32) (v4 : Int32) (h : gx_H) : Option (Int32 × gx_H) :=
  fX11_rests_77 k5 v0 v1 v2 v4 (0 : Int32) h
def bX11_rests_5 (k5 : Nat → Int32 → Int32 → Int32 → Int32 → gx_H → Option (Int32 × gx_H)) (v0 : Nat) (v1 : Int32) (v2 : Int32) (v3 : Int32) (v4 : Int32) (h : gx_H) : Option (Int32 × gx_H) :=
  (gx_fR h v0 9 0).bind fun a1 =>
  (gx_aI 0 h a1 (1 : Int32)).bind fun x2 =>
  if x2 < v4 then
    gx_ret .boolean v3 h
  else
    if v3 = 0 then
      fX11_rests_76 k5 v0 v1 v2 v4 h
    else
      (gx_fR h v0 9 11).bind fun a3 =>
      (gx_aI 0 h a3 (((7 : Int32) * v4) + v2)).bind fun x4 =>
      (gx_fR h v0 9 11).bind fun a5 =>
      (gx_aI 0 h a5 (((7 : Int32) * v1) + v2)).bind fun x6 =>
      if x6 < x4 then
        fX11_rests_76 k5 v0 v1 v2 v4 h
      else
        (gx_fR h v0 9 12).bind fun a7 =>
        (gx_aI 0 h a7 (((7 : Int32) * v1) + v4)).bind fun x8 =>
        (gx_fR h v0 9 12).bind fun a9 =>
        (gx_aI 0 h a9 (((7 : Int32) * v1) + v2)).bind fun x10 =>
        if x10 < x8 then
          fX11_rests_76 k5 v0 v1 v2 v4 h
        else
          fX11_rests_77 k5 v0 v1 v2 v4 (1 : Int32) h
def fX11_rests_5 : Nat → Nat → Int32 → Int32 → Int32 → Int32 → gx_H → Option (Int32 × gx_H)
  | 0 => fun _ _ _ _ _ _ => none
  | n + 1 => bX11_rests_5 (fX11_rests_5 n)
def fX11_rests (v0 : Nat) (v1 : Int32) (v2 : Int32) (h : gx_H) : Option (Int32 × gx_H) :=
  (gx_isO h v0 9).bind fun _ =>
  fX11_rests_5 gx_N v0 v1 v2 (1 : Int32) (1 : Int32) h
set_option maxRecDepth 100000 in
set_option maxHeartbeats 4000000 in
theorem gX11_rests_77 {E : gx_Env} {d : Nat} (k5 : Nat → Int32 → Int32 → Int32 → Int32 → gx_H → Option (Int32 × gx_H)) (hk5 : ∀ (v0 : Nat) (v1 : Int32) (v2 : Int32) (v3 : Int32) (v4 : Int32) (h : gx_H), gx_G E RX11 cX11_rests 5 (some .boolean) false d 0 0 5 [some (.ref v0), some (.int v1), some (.int v2), some (.int v3), some (.int v4)] [] h (fun x : Int32 => some (.int x)) (k5 v0 v1 v2 v3 v4 h))  : ∀ (v0 : Nat) (v1 : Int32) (v2 : Int32) (v4 : Int32) (s0 : Int32) (h : gx_H), gx_G E RX11 cX11_rests 5 (some .boolean) false d 0 0 77 [some (.ref v0), some (.int v1), some (.int v2), none, some (.int v4)] [.int s0] h (fun x : Int32 => some (.int x)) (fX11_rests_77 k5 v0 v1 v2 v4 s0 h) := by
  intro v0 v1 v2 v4 s0 h
  unfold fX11_rests_77
  refine gx_istore_n 3 [some (.ref v0), some (.int v1), some (.int v2), some (.int s0), some (.int v4)] dX11_rests_77 rfl (by decide) rfl ?_
  refine gx_iinc (1 : Int32) [some (.ref v0), some (.int v1), some (.int v2), some (.int s0), some (.int (v4 + (1 : Int32)))] dX11_rests_78 rfl (by decide) (by decide) rfl ?_
  refine gx_goto 5 dX11_rests_81 (by decide) ?_
  exact gx_sub (hk5 v0 v1 v2 s0 (v4 + (1 : Int32)) h) (And.intro rfl (And.intro rfl (And.intro rfl (And.intro rfl (And.intro rfl True.intro)))))
set_option maxRecDepth 100000 in
set_option maxHeartbeats 4000000 in
theorem gX11_rests_76 {E : gx_Env} {d : Nat} (k5 : Nat → Int32 → Int32 → Int32 → Int32 → gx_H → Option (Int32 × gx_H)) (hk5 : ∀ (v0 : Nat) (v1 : Int32) (v2 : Int32) (v3 : Int32) (v4 : Int32) (h : gx_H), gx_G E RX11 cX11_rests 5 (some .boolean) false d 0 0 5 [some (.ref v0), some (.int v1), some (.int v2), some (.int v3), some (.int v4)] [] h (fun x : Int32 => some (.int x)) (k5 v0 v1 v2 v3 v4 h))  : ∀ (v0 : Nat) (v1 : Int32) (v2 : Int32) (v4 : Int32) (h : gx_H), gx_G E RX11 cX11_rests 5 (some .boolean) false d 0 0 76 [some (.ref v0), some (.int v1), some (.int v2), none, some (.int v4)] [] h (fun x : Int32 => some (.int x)) (fX11_rests_76 k5 v0 v1 v2 v4 h) := by
  intro v0 v1 v2 v4 h
  unfold fX11_rests_76
  refine gx_iconst (0 : Int32) dX11_rests_76 (by decide) ?_
  exact gx_sub (gX11_rests_77 k5 hk5 v0 v1 v2 v4 (0 : Int32) h) (And.intro rfl (And.intro rfl (And.intro rfl (And.intro rfl True.intro))))
set_option maxRecDepth 100000 in
set_option maxHeartbeats 4000000 in
theorem gbX11_rests_5 {E : gx_Env} {d : Nat}  (k5 : Nat → Int32 → Int32 → Int32 → Int32 → gx_H → Option (Int32 × gx_H)) (hk5 : ∀ (v0 : Nat) (v1 : Int32) (v2 : Int32) (v3 : Int32) (v4 : Int32) (h : gx_H), gx_G E RX11 cX11_rests 5 (some .boolean) false d 0 0 5 [some (.ref v0), some (.int v1), some (.int v2), some (.int v3), some (.int v4)] [] h (fun x : Int32 => some (.int x)) (k5 v0 v1 v2 v3 v4 h))  : ∀ (v0 : Nat) (v1 : Int32) (v2 : Int32) (v3 : Int32) (v4 : Int32) (h : gx_H), gx_G E RX11 cX11_rests 5 (some .boolean) false d 0 0 5 [some (.ref v0), some (.int v1), some (.int v2), some (.int v3), some (.int v4)] [] h (fun x : Int32 => some (.int x)) (bX11_rests_5 k5 v0 v1 v2 v3 v4 h) := by
  intro v0 v1 v2 v3 v4 h
  unfold bX11_rests_5
  refine gx_iload dX11_rests_5 rfl ?_
  refine gx_aload_n 0 dX11_rests_7 rfl rfl ?_
  refine gx_getR kf_RX11_7 dX11_rests_8 (fun a1 => ?_)
  refine gx_iconst (1 : Int32) dX11_rests_11 (by decide) ?_
  refine gx_iald dX11_rests_12 (fun x2 => ?_)
  refine gx_icmp_gt 84 dX11_rests_13 (by decide) (fun _ => ?_) (fun _ => ?_)
  · refine gx_iload_n 3 dX11_rests_84 rfl rfl ?_
    exact gx_zret dX11_rests_85 rfl
  · refine gx_iload_n 3 dX11_rests_16 rfl rfl ?_
    refine gx_if_eq 76 dX11_rests_17 (by decide) (fun _ => ?_) (fun _ => ?_)
    · exact gx_sub (gX11_rests_76 k5 hk5 v0 v1 v2 v4 h) (And.intro rfl (And.intro rfl (And.intro rfl (And.intro rfl True.intro))))
    · refine gx_aload_n 0 dX11_rests_20 rfl rfl ?_
      refine gx_getR kf_RX11_33 dX11_rests_21 (fun a3 => ?_)
      refine gx_bipush (7 : Int32) dX11_rests_24 (by decide) ?_
      refine gx_iload dX11_rests_26 rfl ?_
      refine gx_imul dX11_rests_28 ?_
      refine gx_iload_n 2 dX11_rests_29 rfl rfl ?_
      refine gx_iadd dX11_rests_30 ?_
      refine gx_iald dX11_rests_31 (fun x4 => ?_)
      refine gx_aload_n 0 dX11_rests_32 rfl rfl ?_
      refine gx_getR kf_RX11_33 dX11_rests_33 (fun a5 => ?_)
      refine gx_bipush (7 : Int32) dX11_rests_36 (by decide) ?_
      refine gx_iload_n 1 dX11_rests_38 rfl rfl ?_
      refine gx_imul dX11_rests_39 ?_
      refine gx_iload_n 2 dX11_rests_40 rfl rfl ?_
      refine gx_iadd dX11_rests_41 ?_
      refine gx_iald dX11_rests_42 (fun x6 => ?_)
      refine gx_icmp_gt 76 dX11_rests_43 (by decide) (fun _ => ?_) (fun _ => ?_)
      · exact gx_sub (gX11_rests_76 k5 hk5 v0 v1 v2 v4 h) (And.intro rfl (And.intro rfl (And.intro rfl (And.intro rfl True.intro))))
      · refine gx_aload_n 0 dX11_rests_46 rfl rfl ?_
        refine gx_getR kf_RX11_36 dX11_rests_47 (fun a7 => ?_)
        refine gx_bipush (7 : Int32) dX11_rests_50 (by decide) ?_
        refine gx_iload_n 1 dX11_rests_52 rfl rfl ?_
        refine gx_imul dX11_rests_53 ?_
        refine gx_iload dX11_rests_54 rfl ?_
        refine gx_iadd dX11_rests_56 ?_
        refine gx_iald dX11_rests_57 (fun x8 => ?_)
        refine gx_aload_n 0 dX11_rests_58 rfl rfl ?_
        refine gx_getR kf_RX11_36 dX11_rests_59 (fun a9 => ?_)
        refine gx_bipush (7 : Int32) dX11_rests_62 (by decide) ?_
        refine gx_iload_n 1 dX11_rests_64 rfl rfl ?_
        refine gx_imul dX11_rests_65 ?_
        refine gx_iload_n 2 dX11_rests_66 rfl rfl ?_
        refine gx_iadd dX11_rests_67 ?_
        refine gx_iald dX11_rests_68 (fun x10 => ?_)
        refine gx_icmp_gt 76 dX11_rests_69 (by decide) (fun _ => ?_) (fun _ => ?_)
        · exact gx_sub (gX11_rests_76 k5 hk5 v0 v1 v2 v4 h) (And.intro rfl (And.intro rfl (And.intro rfl (And.intro rfl True.intro))))
        · refine gx_iconst (1 : Int32) dX11_rests_72 (by decide) ?_
          refine gx_goto 77 dX11_rests_73 (by decide) ?_
          exact gx_sub (gX11_rests_77 k5 hk5 v0 v1 v2 v4 (1 : Int32) h) (And.intro rfl (And.intro rfl (And.intro rfl (And.intro rfl True.intro))))
set_option maxRecDepth 100000 in
set_option maxHeartbeats 4000000 in
theorem gX11_rests_5 {E : gx_Env} {d : Nat}  : ∀ (n : Nat) (v0 : Nat) (v1 : Int32) (v2 : Int32) (v3 : Int32) (v4 : Int32) (h : gx_H), gx_G E RX11 cX11_rests 5 (some .boolean) false d 0 0 5 [some (.ref v0), some (.int v1), some (.int v2), some (.int v3), some (.int v4)] [] h (fun x : Int32 => some (.int x)) (fX11_rests_5 n v0 v1 v2 v3 v4 h) := by
  intro n
  induction n with
  | zero => intro v0 v1 v2 v3 v4 h; exact gx_none
  | succ n ih => exact gbX11_rests_5  (fX11_rests_5  n) ih
set_option maxRecDepth 100000 in
set_option maxHeartbeats 4000000 in
theorem geX11_rests {E : gx_Env} {d : Nat} (v0 : Nat) (v1 : Int32) (v2 : Int32) (h : gx_H) : gx_G E RX11 cX11_rests 5 (some .boolean) false d 0 0 0 [some (.ref v0), some (.int v1), some (.int v2), none, none] [] h (fun x : Int32 => some (.int x)) (fX11_rests v0 v1 v2 h) := by
  unfold fX11_rests
  refine gx_bind fun _ _ => ?_
  refine gx_iconst (1 : Int32) dX11_rests_0 (by decide) ?_
  refine gx_istore_n 3 [some (.ref v0), some (.int v1), some (.int v2), some (.int (1 : Int32)), none] dX11_rests_1 rfl (by decide) rfl ?_
  refine gx_iconst (1 : Int32) dX11_rests_2 (by decide) ?_
  refine gx_istore [some (.ref v0), some (.int v1), some (.int v2), some (.int (1 : Int32)), some (.int (1 : Int32))] dX11_rests_3 (by decide) rfl ?_
  exact gx_sub (gX11_rests_5 gx_N v0 v1 v2 (1 : Int32) (1 : Int32) h) (And.intro rfl (And.intro rfl (And.intro rfl (And.intro rfl (And.intro rfl True.intro)))))
theorem okX11_rests {E : gx_Env} (d : Nat) {v0 : Nat} {v1 : Int32} {v2 : Int32} {h : gx_H} {r : Int32} {h1 : gx_H} (q : fX11_rests v0 v1 v2 h = some (r, h1)) : gx_M E yX11_rests cX11_rests 5 (some .boolean) d 0 0 [.ref v0, .int v1, .int v2] h ((fun x : Int32 => some (.int x)) r) h1 := gx_meth (y := yX11_rests) (cc := cX11_rests) (nL := 5) (em := (fun x : Int32 => some (.int x))) (ini := false) [.ref v0, .int v1, .int v2] (by decide) (by simp [gx_sl]) (fun q => by cases q) (geX11_rests v0 v1 v2 h) q
theorem dX11_choice_0 : decode cX11_choice 0 = .ok (.aload_n 0, 1) := by decide +kernel
theorem dX11_choice_1 : decode cX11_choice 1 = .ok (.iload_n 1, 1) := by decide +kernel
theorem dX11_choice_2 : decode cX11_choice 2 = .ok (.invokevirtual 185, 3) := by decide +kernel
theorem dX11_choice_5 : decode cX11_choice 5 = .ok (.ifCond .eq 21, 3) := by decide +kernel
theorem dX11_choice_8 : decode cX11_choice 8 = .ok (.aload_n 0, 1) := by decide +kernel
theorem dX11_choice_9 : decode cX11_choice 9 = .ok (.iload_n 2, 1) := by decide +kernel
theorem dX11_choice_10 : decode cX11_choice 10 = .ok (.invokevirtual 185, 3) := by decide +kernel
theorem dX11_choice_13 : decode cX11_choice 13 = .ok (.ifCond .eq 13, 3) := by decide +kernel
theorem dX11_choice_16 : decode cX11_choice 16 = .ok (.iload_n 1, 1) := by decide +kernel
theorem dX11_choice_17 : decode cX11_choice 17 = .ok (.iload_n 2, 1) := by decide +kernel
theorem dX11_choice_18 : decode cX11_choice 18 = .ok (.if_icmp .eq 8, 3) := by decide +kernel
theorem dX11_choice_21 : decode cX11_choice 21 = .ok (.iload_n 3, 1) := by decide +kernel
theorem dX11_choice_22 : decode cX11_choice 22 = .ok (.iconst (-1), 1) := by decide +kernel
theorem dX11_choice_23 : decode cX11_choice 23 = .ok (.if_icmp .ge 10, 3) := by decide +kernel
theorem dX11_choice_26 : decode cX11_choice 26 = .ok (.aload_n 0, 1) := by decide +kernel
theorem dX11_choice_27 : decode cX11_choice 27 = .ok (.bipush (-10), 2) := by decide +kernel
theorem dX11_choice_29 : decode cX11_choice 29 = .ok (.invokevirtual 81, 3) := by decide +kernel
theorem dX11_choice_32 : decode cX11_choice 32 = .ok (.ireturn, 1) := by decide +kernel
theorem dX11_choice_33 : decode cX11_choice 33 = .ok (.aload_n 0, 1) := by decide +kernel
theorem dX11_choice_34 : decode cX11_choice 34 = .ok (.iload_n 1, 1) := by decide +kernel
theorem dX11_choice_35 : decode cX11_choice 35 = .ok (.iload_n 2, 1) := by decide +kernel
theorem dX11_choice_36 : decode cX11_choice 36 = .ok (.invokevirtual 239, 3) := by decide +kernel
theorem dX11_choice_39 : decode cX11_choice 39 = .ok (.iconst 0, 1) := by decide +kernel
theorem dX11_choice_40 : decode cX11_choice 40 = .ok (.istore 4, 2) := by decide +kernel
theorem dX11_choice_42 : decode cX11_choice 42 = .ok (.iconst 1, 1) := by decide +kernel
theorem dX11_choice_43 : decode cX11_choice 43 = .ok (.istore 5, 2) := by decide +kernel
theorem dX11_choice_45 : decode cX11_choice 45 = .ok (.iload 5, 2) := by decide +kernel
theorem dX11_choice_47 : decode cX11_choice 47 = .ok (.aload_n 0, 1) := by decide +kernel
theorem dX11_choice_48 : decode cX11_choice 48 = .ok (.getfield 7, 3) := by decide +kernel
theorem dX11_choice_51 : decode cX11_choice 51 = .ok (.iconst 1, 1) := by decide +kernel
theorem dX11_choice_52 : decode cX11_choice 52 = .ok (.iaload, 1) := by decide +kernel
theorem dX11_choice_53 : decode cX11_choice 53 = .ok (.if_icmp .gt 58, 3) := by decide +kernel
theorem dX11_choice_56 : decode cX11_choice 56 = .ok (.iconst 1, 1) := by decide +kernel
theorem dX11_choice_57 : decode cX11_choice 57 = .ok (.istore 6, 2) := by decide +kernel
theorem dX11_choice_59 : decode cX11_choice 59 = .ok (.iload 6, 2) := by decide +kernel
theorem dX11_choice_61 : decode cX11_choice 61 = .ok (.aload_n 0, 1) := by decide +kernel
theorem dX11_choice_62 : decode cX11_choice 62 = .ok (.getfield 7, 3) := by decide +kernel
theorem dX11_choice_65 : decode cX11_choice 65 = .ok (.iconst 1, 1) := by decide +kernel
theorem dX11_choice_66 : decode cX11_choice 66 = .ok (.iaload, 1) := by decide +kernel
theorem dX11_choice_67 : decode cX11_choice 67 = .ok (.if_icmp .gt 38, 3) := by decide +kernel
theorem dX11_choice_70 : decode cX11_choice 70 = .ok (.aload_n 0, 1) := by decide +kernel
theorem dX11_choice_71 : decode cX11_choice 71 = .ok (.iload 5, 2) := by decide +kernel
theorem dX11_choice_73 : decode cX11_choice 73 = .ok (.iload 6, 2) := by decide +kernel
theorem dX11_choice_75 : decode cX11_choice 75 = .ok (.invokevirtual 242, 3) := by decide +kernel
theorem dX11_choice_78 : decode cX11_choice 78 = .ok (.ifCond .eq 21, 3) := by decide +kernel
theorem dX11_choice_81 : decode cX11_choice 81 = .ok (.iload 4, 2) := by decide +kernel
theorem dX11_choice_83 : decode cX11_choice 83 = .ok (.iload_n 3, 1) := by decide +kernel
theorem dX11_choice_84 : decode cX11_choice 84 = .ok (.if_icmp .ne 12, 3) := by decide +kernel
theorem dX11_choice_87 : decode cX11_choice 87 = .ok (.bipush 10, 2) := by decide +kernel
theorem dX11_choice_89 : decode cX11_choice 89 = .ok (.iload 5, 2) := by decide +kernel
theorem dX11_choice_91 : decode cX11_choice 91 = .ok (.imul, 1) := by decide +kernel
theorem dX11_choice_92 : decode cX11_choice 92 = .ok (.iload 6, 2) := by decide +kernel
theorem dX11_choice_94 : decode cX11_choice 94 = .ok (.iadd, 1) := by decide +kernel
theorem dX11_choice_95 : decode cX11_choice 95 = .ok (.ireturn, 1) := by decide +kernel
theorem dX11_choice_96 : decode cX11_choice 96 = .ok (.iinc 4 1, 3) := by decide +kernel
theorem dX11_choice_99 : decode cX11_choice 99 = .ok (.iinc 6 1, 3) := by decide +kernel
theorem dX11_choice_102 : decode cX11_choice 102 = .ok (.goto (-43), 3) := by decide +kernel
theorem dX11_choice_105 : decode cX11_choice 105 = .ok (.iinc 5 1, 3) := by decide +kernel
theorem dX11_choice_108 : decode cX11_choice 108 = .ok (.goto (-63), 3) := by decide +kernel
theorem dX11_choice_111 : decode cX11_choice 111 = .ok (.iload_n 3, 1) := by decide +kernel
theorem dX11_choice_112 : decode cX11_choice 112 = .ok (.iconst (-1), 1) := by decide +kernel
theorem dX11_choice_113 : decode cX11_choice 113 = .ok (.if_icmp .ne 8, 3) := by decide +kernel
theorem dX11_choice_116 : decode cX11_choice 116 = .ok (.iload 4, 2) := by decide +kernel
theorem dX11_choice_118 : decode cX11_choice 118 = .ok (.goto 5, 3) := by decide +kernel
theorem dX11_choice_121 : decode cX11_choice 121 = .ok (.bipush (-5), 2) := by decide +kernel
theorem dX11_choice_123 : decode cX11_choice 123 = .ok (.ireturn, 1) := by decide +kernel
def fX11_choice_26 (v0 : Nat) (h : gx_H) : Option (Int32 × gx_H) :=
  gx_bd (fX11_bad v0 (-10 : Int32) h) fun x8 h7 =>
  some (x8, h7)
def fX11_choice_99 (k45 : Nat → Int32 → Int32 → Int32 → gx_H → Option (Int32 × gx_H)) (k59 : Nat → Int32 → Int32 → Int32 → Int32 → gx_H → Option (Int32 × gx_H)) (v0 : Nat) (v3 : Int32) (v4 : Int32) (v5 : Int32) (v6 : Int32) (h : gx_H) : Option (Int32 × gx_H) :=
  k59 v0 v3 v4 v5 (v6 + (1 : Int32)) h
def bX11_choice_59 (k45 : Nat → Int32 → Int32 → Int32 → gx_H → Option (Int32 × gx_H)) (k59 : Nat → Int32 → Int32 → Int32 → Int32 → gx_H → Option (Int32 × gx_H)) (v0 : Nat) (v3 : Int32) (v4 : Int32) (v5 : Int32) (v6 : Int32) (h : gx_H) : Option (Int32 × gx_H) :=
  (gx_fR h v0 9 0).bind fun a11 =>
  (gx_aI 0 h a11 (1 : Int32)).bind fun x12 =>
  if x12 < v6 then
    k45 v0 v3 v4 (v5 + (1 : Int32)) h
  else
    gx_bd (fX11_rests v0 v5 v6 h) fun x14 h13 =>
    if x14 = 0 then
      fX11_choice_99 k45 k59 v0 v3 v4 v5 v6 h13
    else
      if v4 = v3 then
        some ((((10 : Int32) * v5) + v6), h13)
      else
        fX11_choice_99 k45 k59 v0 v3 (v4 + (1 : Int32)) v5 v6 h13
def fX11_choice_59 (k45 : Nat → Int32 → Int32 → Int32 → gx_H → Option (Int32 × gx_H)) : Nat → Nat → Int32 → Int32 → Int32 → Int32 → gx_H → Option (Int32 × gx_H)
  | 0 => fun _ _ _ _ _ _ => none
  | n + 1 => bX11_choice_59 k45 (fX11_choice_59 k45 n)
def fX11_choice_123 (s0 : Int32) (h : gx_H) : Option (Int32 × gx_H) :=
  some (s0, h)
def bX11_choice_45 (k45 : Nat → Int32 → Int32 → Int32 → gx_H → Option (Int32 × gx_H)) (v0 : Nat) (v3 : Int32) (v4 : Int32) (v5 : Int32) (h : gx_H) : Option (Int32 × gx_H) :=
  (gx_fR h v0 9 0).bind fun a9 =>
  (gx_aI 0 h a9 (1 : Int32)).bind fun x10 =>
  if x10 < v5 then
    if v3 = (-1 : Int32) then
      fX11_choice_123 v4 h
    else
      fX11_choice_123 (-5 : Int32) h
  else
    fX11_choice_59 k45 gx_N v0 v3 v4 v5 (1 : Int32) h
def fX11_choice_45 : Nat → Nat → Int32 → Int32 → Int32 → gx_H → Option (Int32 × gx_H)
  | 0 => fun _ _ _ _ _ => none
  | n + 1 => bX11_choice_45 (fX11_choice_45 n)
def fX11_choice (v0 : Nat) (v1 : Int32) (v2 : Int32) (v3 : Int32) (h : gx_H) : Option (Int32 × gx_H) :=
  (gx_isO h v0 9).bind fun _ =>
  gx_bd (fX11_isPlayer v0 v1 h) fun x2 h1 =>
  if x2 = 0 then
    fX11_choice_26 v0 h1
  else
    gx_bd (fX11_isPlayer v0 v2 h1) fun x4 h3 =>
    if x4 = 0 then
      fX11_choice_26 v0 h3
    else
      if v1 = v2 then
        fX11_choice_26 v0 h3
      else
        if (-1 : Int32) ≤ v3 then
          gx_bd (fX11_gains v0 v1 v2 h3) fun u6 h5 =>
          fX11_choice_45 gx_N v0 v3 (0 : Int32) (1 : Int32) h5
        else
          fX11_choice_26 v0 h3
set_option maxRecDepth 100000 in
set_option maxHeartbeats 4000000 in
theorem gX11_choice_26 {E : gx_Env} {d : Nat}  : ∀ (v0 : Nat) (h : gx_H), gx_G E RX11 cX11_choice 7 (some .int) false (d + 6) 0 0 26 [some (.ref v0), none, none, none, none, none, none] [] h (fun x : Int32 => some (.int x)) (fX11_choice_26 v0 h) := by
  intro v0 h
  unfold fX11_choice_26
  refine gx_aload_n 0 dX11_choice_26 rfl rfl ?_
  refine gx_bipush (-10 : Int32) dX11_choice_27 (by decide) ?_
  refine gx_callV (ci := 9) (bc := 0) (bs := 0) (mc := 0) (ms := 0) (em' := (fun x : Int32 => some (.int x))) [.int (-10 : Int32)] kc_RX11_81 rfl dX11_choice_29 rfl rfl (gx_w8 rfl) (fun x q => (gx_isO_of (by unfold fX11_bad at q; exact q)).2) (fun _ _ q => okX11_bad (d + 5) q) (fun x8 h7 => ?_)
  exact gx_iret dX11_choice_32 rfl
set_option maxRecDepth 100000 in
set_option maxHeartbeats 4000000 in
theorem gX11_choice_99 {E : gx_Env} {d : Nat} (k45 : Nat → Int32 → Int32 → Int32 → gx_H → Option (Int32 × gx_H)) (hk45 : ∀ (v0 : Nat) (v3 : Int32) (v4 : Int32) (v5 : Int32) (h : gx_H), gx_G E RX11 cX11_choice 7 (some .int) false (d + 6) 0 0 45 [some (.ref v0), none, none, some (.int v3), some (.int v4), some (.int v5), none] [] h (fun x : Int32 => some (.int x)) (k45 v0 v3 v4 v5 h))  (k59 : Nat → Int32 → Int32 → Int32 → Int32 → gx_H → Option (Int32 × gx_H)) (hk59 : ∀ (v0 : Nat) (v3 : Int32) (v4 : Int32) (v5 : Int32) (v6 : Int32) (h : gx_H), gx_G E RX11 cX11_choice 7 (some .int) false (d + 6) 0 0 59 [some (.ref v0), none, none, some (.int v3), some (.int v4), some (.int v5), some (.int v6)] [] h (fun x : Int32 => some (.int x)) (k59 v0 v3 v4 v5 v6 h))  : ∀ (v0 : Nat) (v3 : Int32) (v4 : Int32) (v5 : Int32) (v6 : Int32) (h : gx_H), gx_G E RX11 cX11_choice 7 (some .int) false (d + 6) 0 0 99 [some (.ref v0), none, none, some (.int v3), some (.int v4), some (.int v5), some (.int v6)] [] h (fun x : Int32 => some (.int x)) (fX11_choice_99 k45 k59 v0 v3 v4 v5 v6 h) := by
  intro v0 v3 v4 v5 v6 h
  unfold fX11_choice_99
  refine gx_iinc (1 : Int32) [some (.ref v0), none, none, some (.int v3), some (.int v4), some (.int v5), some (.int (v6 + (1 : Int32)))] dX11_choice_99 rfl (by decide) (by decide) rfl ?_
  refine gx_goto 59 dX11_choice_102 (by decide) ?_
  exact gx_sub (hk59 v0 v3 v4 v5 (v6 + (1 : Int32)) h) (And.intro rfl (And.intro rfl (And.intro rfl (And.intro rfl (And.intro rfl True.intro)))))
set_option maxRecDepth 100000 in
set_option maxHeartbeats 4000000 in
theorem gbX11_choice_59 {E : gx_Env} {d : Nat} (k45 : Nat → Int32 → Int32 → Int32 → gx_H → Option (Int32 × gx_H)) (hk45 : ∀ (v0 : Nat) (v3 : Int32) (v4 : Int32) (v5 : Int32) (h : gx_H), gx_G E RX11 cX11_choice 7 (some .int) false (d + 6) 0 0 45 [some (.ref v0), none, none, some (.int v3), some (.int v4), some (.int v5), none] [] h (fun x : Int32 => some (.int x)) (k45 v0 v3 v4 v5 h))  (k59 : Nat → Int32 → Int32 → Int32 → Int32 → gx_H → Option (Int32 × gx_H)) (hk59 : ∀ (v0 : Nat) (v3 : Int32) (v4 : Int32) (v5 : Int32) (v6 : Int32) (h : gx_H), gx_G E RX11 cX11_choice 7 (some .int) false (d + 6) 0 0 59 [some (.ref v0), none, none, some (.int v3), some (.int v4), some (.int v5), some (.int v6)] [] h (fun x : Int32 => some (.int x)) (k59 v0 v3 v4 v5 v6 h))  : ∀ (v0 : Nat) (v3 : Int32) (v4 : Int32) (v5 : Int32) (v6 : Int32) (h : gx_H), gx_G E RX11 cX11_choice 7 (some .int) false (d + 6) 0 0 59 [some (.ref v0), none, none, some (.int v3), some (.int v4), some (.int v5), some (.int v6)] [] h (fun x : Int32 => some (.int x)) (bX11_choice_59 k45 k59 v0 v3 v4 v5 v6 h) := by
  intro v0 v3 v4 v5 v6 h
  unfold bX11_choice_59
  refine gx_iload dX11_choice_59 rfl ?_
  refine gx_aload_n 0 dX11_choice_61 rfl rfl ?_
  refine gx_getR kf_RX11_7 dX11_choice_62 (fun a11 => ?_)
  refine gx_iconst (1 : Int32) dX11_choice_65 (by decide) ?_
  refine gx_iald dX11_choice_66 (fun x12 => ?_)
  refine gx_icmp_gt 105 dX11_choice_67 (by decide) (fun _ => ?_) (fun _ => ?_)
  · refine gx_iinc (1 : Int32) [some (.ref v0), none, none, some (.int v3), some (.int v4), some (.int (v5 + (1 : Int32))), some (.int v6)] dX11_choice_105 rfl (by decide) (by decide) rfl ?_
    refine gx_goto 45 dX11_choice_108 (by decide) ?_
    exact gx_sub (hk45 v0 v3 v4 (v5 + (1 : Int32)) h) (And.intro rfl (And.intro rfl (And.intro rfl (And.intro rfl True.intro))))
  · refine gx_aload_n 0 dX11_choice_70 rfl rfl ?_
    refine gx_iload dX11_choice_71 rfl ?_
    refine gx_iload dX11_choice_73 rfl ?_
    refine gx_callV (ci := 9) (bc := 0) (bs := 0) (mc := 0) (ms := 0) (em' := (fun x : Int32 => some (.int x))) [.int v5, .int v6] kc_RX11_242 rfl dX11_choice_75 rfl rfl (gx_w8 rfl) (fun x q => (gx_isO_of (by unfold fX11_rests at q; exact q)).2) (fun _ _ q => okX11_rests (d + 5) q) (fun x14 h13 => ?_)
    refine gx_if_eq 99 dX11_choice_78 (by decide) (fun _ => ?_) (fun _ => ?_)
    · exact gx_sub (gX11_choice_99 k45 hk45 k59 hk59 v0 v3 v4 v5 v6 h13) (And.intro rfl (And.intro rfl (And.intro rfl (And.intro rfl (And.intro rfl True.intro)))))
    · refine gx_iload dX11_choice_81 rfl ?_
      refine gx_iload_n 3 dX11_choice_83 rfl rfl ?_
      refine gx_icmp_ne 96 dX11_choice_84 (by decide) (fun _ => ?_) (fun _ => ?_)
      · refine gx_iinc (1 : Int32) [some (.ref v0), none, none, some (.int v3), some (.int (v4 + (1 : Int32))), some (.int v5), some (.int v6)] dX11_choice_96 rfl (by decide) (by decide) rfl ?_
        exact gx_sub (gX11_choice_99 k45 hk45 k59 hk59 v0 v3 (v4 + (1 : Int32)) v5 v6 h13) (And.intro rfl (And.intro rfl (And.intro rfl (And.intro rfl (And.intro rfl True.intro)))))
      · refine gx_bipush (10 : Int32) dX11_choice_87 (by decide) ?_
        refine gx_iload dX11_choice_89 rfl ?_
        refine gx_imul dX11_choice_91 ?_
        refine gx_iload dX11_choice_92 rfl ?_
        refine gx_iadd dX11_choice_94 ?_
        exact gx_iret dX11_choice_95 rfl
set_option maxRecDepth 100000 in
set_option maxHeartbeats 4000000 in
theorem gX11_choice_59 {E : gx_Env} {d : Nat} (k45 : Nat → Int32 → Int32 → Int32 → gx_H → Option (Int32 × gx_H)) (hk45 : ∀ (v0 : Nat) (v3 : Int32) (v4 : Int32) (v5 : Int32) (h : gx_H), gx_G E RX11 cX11_choice 7 (some .int) false (d + 6) 0 0 45 [some (.ref v0), none, none, some (.int v3), some (.int v4), some (.int v5), none] [] h (fun x : Int32 => some (.int x)) (k45 v0 v3 v4 v5 h))  : ∀ (n : Nat) (v0 : Nat) (v3 : Int32) (v4 : Int32) (v5 : Int32) (v6 : Int32) (h : gx_H), gx_G E RX11 cX11_choice 7 (some .int) false (d + 6) 0 0 59 [some (.ref v0), none, none, some (.int v3), some (.int v4), some (.int v5), some (.int v6)] [] h (fun x : Int32 => some (.int x)) (fX11_choice_59 k45 n v0 v3 v4 v5 v6 h) := by
  intro n
  induction n with
  | zero => intro v0 v3 v4 v5 v6 h; exact gx_none
  | succ n ih => exact gbX11_choice_59 k45 hk45 (fX11_choice_59 k45 n) ih
set_option maxRecDepth 100000 in
set_option maxHeartbeats 4000000 in
theorem gX11_choice_123 {E : gx_Env} {d : Nat}  : ∀ (s0 : Int32) (h : gx_H), gx_G E RX11 cX11_choice 7 (some .int) false (d + 6) 0 0 123 [none, none, none, none, none, none, none] [.int s0] h (fun x : Int32 => some (.int x)) (fX11_choice_123 s0 h) := by
  intro s0 h
  unfold fX11_choice_123
  exact gx_iret dX11_choice_123 rfl
set_option maxRecDepth 100000 in
set_option maxHeartbeats 4000000 in
theorem gbX11_choice_45 {E : gx_Env} {d : Nat}  (k45 : Nat → Int32 → Int32 → Int32 → gx_H → Option (Int32 × gx_H)) (hk45 : ∀ (v0 : Nat) (v3 : Int32) (v4 : Int32) (v5 : Int32) (h : gx_H), gx_G E RX11 cX11_choice 7 (some .int) false (d + 6) 0 0 45 [some (.ref v0), none, none, some (.int v3), some (.int v4), some (.int v5), none] [] h (fun x : Int32 => some (.int x)) (k45 v0 v3 v4 v5 h))  : ∀ (v0 : Nat) (v3 : Int32) (v4 : Int32) (v5 : Int32) (h : gx_H), gx_G E RX11 cX11_choice 7 (some .int) false (d + 6) 0 0 45 [some (.ref v0), none, none, some (.int v3), some (.int v4), some (.int v5), none] [] h (fun x : Int32 => some (.int x)) (bX11_choice_45 k45 v0 v3 v4 v5 h) := by
  intro v0 v3 v4 v5 h
  unfold bX11_choice_45
  refine gx_iload dX11_choice_45 rfl ?_
  refine gx_aload_n 0 dX11_choice_47 rfl rfl ?_
  refine gx_getR kf_RX11_7 dX11_choice_48 (fun a9 => ?_)
  refine gx_iconst (1 : Int32) dX11_choice_51 (by decide) ?_
  refine gx_iald dX11_choice_52 (fun x10 => ?_)
  refine gx_icmp_gt 111 dX11_choice_53 (by decide) (fun _ => ?_) (fun _ => ?_)
  · refine gx_iload_n 3 dX11_choice_111 rfl rfl ?_
    refine gx_iconst (-1 : Int32) dX11_choice_112 (by decide) ?_
    refine gx_icmp_ne 121 dX11_choice_113 (by decide) (fun _ => ?_) (fun _ => ?_)
    · refine gx_bipush (-5 : Int32) dX11_choice_121 (by decide) ?_
      exact gx_sub (gX11_choice_123 (-5 : Int32) h) True.intro
    · refine gx_iload dX11_choice_116 rfl ?_
      refine gx_goto 123 dX11_choice_118 (by decide) ?_
      exact gx_sub (gX11_choice_123 v4 h) True.intro
  · refine gx_iconst (1 : Int32) dX11_choice_56 (by decide) ?_
    refine gx_istore [some (.ref v0), none, none, some (.int v3), some (.int v4), some (.int v5), some (.int (1 : Int32))] dX11_choice_57 (by decide) rfl ?_
    exact gx_sub (gX11_choice_59 k45 hk45 gx_N v0 v3 v4 v5 (1 : Int32) h) (And.intro rfl (And.intro rfl (And.intro rfl (And.intro rfl (And.intro rfl True.intro)))))
set_option maxRecDepth 100000 in
set_option maxHeartbeats 4000000 in
theorem gX11_choice_45 {E : gx_Env} {d : Nat}  : ∀ (n : Nat) (v0 : Nat) (v3 : Int32) (v4 : Int32) (v5 : Int32) (h : gx_H), gx_G E RX11 cX11_choice 7 (some .int) false (d + 6) 0 0 45 [some (.ref v0), none, none, some (.int v3), some (.int v4), some (.int v5), none] [] h (fun x : Int32 => some (.int x)) (fX11_choice_45 n v0 v3 v4 v5 h) := by
  intro n
  induction n with
  | zero => intro v0 v3 v4 v5 h; exact gx_none
  | succ n ih => exact gbX11_choice_45  (fX11_choice_45  n) ih
set_option maxRecDepth 100000 in
set_option maxHeartbeats 4000000 in
theorem geX11_choice {E : gx_Env} {d : Nat} (v0 : Nat) (v1 : Int32) (v2 : Int32) (v3 : Int32) (h : gx_H) : gx_G E RX11 cX11_choice 7 (some .int) false (d + 6) 0 0 0 [some (.ref v0), some (.int v1), some (.int v2), some (.int v3), none, none, none] [] h (fun x : Int32 => some (.int x)) (fX11_choice v0 v1 v2 v3 h) := by
  unfold fX11_choice
  refine gx_bind fun _ _ => ?_
  refine gx_aload_n 0 dX11_choice_0 rfl rfl ?_
  refine gx_iload_n 1 dX11_choice_1 rfl rfl ?_
  refine gx_callV (ci := 9) (bc := 0) (bs := 0) (mc := 0) (ms := 0) (em' := (fun x : Int32 => some (.int x))) [.int v1] kc_RX11_185 rfl dX11_choice_2 rfl rfl (gx_w8 rfl) (fun x q => (gx_isO_of (by unfold fX11_isPlayer at q; exact q)).2) (fun _ _ q => okX11_isPlayer (d + 4) q) (fun x2 h1 => ?_)
  refine gx_if_eq 26 dX11_choice_5 (by decide) (fun _ => ?_) (fun _ => ?_)
  · exact gx_sub (gX11_choice_26 v0 h1) (And.intro rfl True.intro)
  · refine gx_aload_n 0 dX11_choice_8 rfl rfl ?_
    refine gx_iload_n 2 dX11_choice_9 rfl rfl ?_
    refine gx_callV (ci := 9) (bc := 0) (bs := 0) (mc := 0) (ms := 0) (em' := (fun x : Int32 => some (.int x))) [.int v2] kc_RX11_185 rfl dX11_choice_10 rfl rfl (gx_w8 rfl) (fun x q => (gx_isO_of (by unfold fX11_isPlayer at q; exact q)).2) (fun _ _ q => okX11_isPlayer (d + 4) q) (fun x4 h3 => ?_)
    refine gx_if_eq 26 dX11_choice_13 (by decide) (fun _ => ?_) (fun _ => ?_)
    · exact gx_sub (gX11_choice_26 v0 h3) (And.intro rfl True.intro)
    · refine gx_iload_n 1 dX11_choice_16 rfl rfl ?_
      refine gx_iload_n 2 dX11_choice_17 rfl rfl ?_
      refine gx_icmp_eq 26 dX11_choice_18 (by decide) (fun _ => ?_) (fun _ => ?_)
      · exact gx_sub (gX11_choice_26 v0 h3) (And.intro rfl True.intro)
      · refine gx_iload_n 3 dX11_choice_21 rfl rfl ?_
        refine gx_iconst (-1 : Int32) dX11_choice_22 (by decide) ?_
        refine gx_icmp_ge 33 dX11_choice_23 (by decide) (fun _ => ?_) (fun _ => ?_)
        · refine gx_aload_n 0 dX11_choice_33 rfl rfl ?_
          refine gx_iload_n 1 dX11_choice_34 rfl rfl ?_
          refine gx_iload_n 2 dX11_choice_35 rfl rfl ?_
          refine gx_callV (ci := 9) (bc := 0) (bs := 0) (mc := 0) (ms := 0) (em' := (fun _ : Unit => none)) [.int v1, .int v2] kc_RX11_239 rfl dX11_choice_36 rfl rfl (gx_w8 rfl) (fun x q => (gx_isO_of (by unfold fX11_gains at q; exact q)).2) (fun _ _ q => okX11_gains d q) (fun u6 h5 => ?_)
          refine gx_iconst (0 : Int32) dX11_choice_39 (by decide) ?_
          refine gx_istore [some (.ref v0), some (.int v1), some (.int v2), some (.int v3), some (.int (0 : Int32)), none, none] dX11_choice_40 (by decide) rfl ?_
          refine gx_iconst (1 : Int32) dX11_choice_42 (by decide) ?_
          refine gx_istore [some (.ref v0), some (.int v1), some (.int v2), some (.int v3), some (.int (0 : Int32)), some (.int (1 : Int32)), none] dX11_choice_43 (by decide) rfl ?_
          exact gx_sub (gX11_choice_45 gx_N v0 v3 (0 : Int32) (1 : Int32) h5) (And.intro rfl (And.intro rfl (And.intro rfl (And.intro rfl True.intro))))
        · exact gx_sub (gX11_choice_26 v0 h3) (And.intro rfl True.intro)
theorem okX11_choice {E : gx_Env} (d : Nat) {v0 : Nat} {v1 : Int32} {v2 : Int32} {v3 : Int32} {h : gx_H} {r : Int32} {h1 : gx_H} (q : fX11_choice v0 v1 v2 v3 h = some (r, h1)) : gx_M E yX11_choice cX11_choice 7 (some .int) (d + 6) 0 0 [.ref v0, .int v1, .int v2, .int v3] h ((fun x : Int32 => some (.int x)) r) h1 := gx_meth (y := yX11_choice) (cc := cX11_choice) (nL := 7) (em := (fun x : Int32 => some (.int x))) (ini := false) [.ref v0, .int v1, .int v2, .int v3] (by decide) (by simp [gx_sl]) (fun q => by cases q) (geX11_choice v0 v1 v2 v3 h) q
theorem dX11_evenings_0 : decode cX11_evenings 0 = .ok (.iload_n 1, 1) := by decide +kernel
theorem dX11_evenings_1 : decode cX11_evenings 1 = .ok (.i2l, 1) := by decide +kernel
theorem dX11_evenings_2 : decode cX11_evenings 2 = .ok (.lconst 0, 1) := by decide +kernel
theorem dX11_evenings_3 : decode cX11_evenings 3 = .ok (.ldc2_w 245, 3) := by decide +kernel
theorem dX11_evenings_6 : decode cX11_evenings 6 = .ok (.invokestatic 39, 3) := by decide +kernel
theorem dX11_evenings_9 : decode cX11_evenings 9 = .ok (.ifCond .eq 15, 3) := by decide +kernel
theorem dX11_evenings_12 : decode cX11_evenings 12 = .ok (.iload_n 2, 1) := by decide +kernel
theorem dX11_evenings_13 : decode cX11_evenings 13 = .ok (.i2l, 1) := by decide +kernel
theorem dX11_evenings_14 : decode cX11_evenings 14 = .ok (.lconst 0, 1) := by decide +kernel
theorem dX11_evenings_15 : decode cX11_evenings 15 = .ok (.ldc2_w 247, 3) := by decide +kernel
theorem dX11_evenings_18 : decode cX11_evenings 18 = .ok (.invokestatic 39, 3) := by decide +kernel
theorem dX11_evenings_21 : decode cX11_evenings 21 = .ok (.ifCond .ne 10, 3) := by decide +kernel
theorem dX11_evenings_24 : decode cX11_evenings 24 = .ok (.aload_n 0, 1) := by decide +kernel
theorem dX11_evenings_25 : decode cX11_evenings 25 = .ok (.bipush (-2), 2) := by decide +kernel
theorem dX11_evenings_27 : decode cX11_evenings 27 = .ok (.invokevirtual 81, 3) := by decide +kernel
theorem dX11_evenings_30 : decode cX11_evenings 30 = .ok (.ireturn, 1) := by decide +kernel
theorem dX11_evenings_31 : decode cX11_evenings 31 = .ok (.aload_n 0, 1) := by decide +kernel
theorem dX11_evenings_32 : decode cX11_evenings 32 = .ok (.invokevirtual 208, 3) := by decide +kernel
theorem dX11_evenings_35 : decode cX11_evenings 35 = .ok (.iload_n 1, 1) := by decide +kernel
theorem dX11_evenings_36 : decode cX11_evenings 36 = .ok (.i2l, 1) := by decide +kernel
theorem dX11_evenings_37 : decode cX11_evenings 37 = .ok (.lstore_n 3, 1) := by decide +kernel
theorem dX11_evenings_38 : decode cX11_evenings 38 = .ok (.iconst 0, 1) := by decide +kernel
theorem dX11_evenings_39 : decode cX11_evenings 39 = .ok (.istore 5, 2) := by decide +kernel
theorem dX11_evenings_41 : decode cX11_evenings 41 = .ok (.iload 5, 2) := by decide +kernel
theorem dX11_evenings_43 : decode cX11_evenings 43 = .ok (.iload_n 2, 1) := by decide +kernel
theorem dX11_evenings_44 : decode cX11_evenings 44 = .ok (.if_icmp .ge 66, 3) := by decide +kernel
theorem dX11_evenings_47 : decode cX11_evenings 47 = .ok (.lload_n 3, 1) := by decide +kernel
theorem dX11_evenings_48 : decode cX11_evenings 48 = .ok (.ldc2_w 249, 3) := by decide +kernel
theorem dX11_evenings_51 : decode cX11_evenings 51 = .ok (.lmul, 1) := by decide +kernel
theorem dX11_evenings_52 : decode cX11_evenings 52 = .ok (.ldc2_w 251, 3) := by decide +kernel
theorem dX11_evenings_55 : decode cX11_evenings 55 = .ok (.ladd, 1) := by decide +kernel
theorem dX11_evenings_56 : decode cX11_evenings 56 = .ok (.ldc2_w 253, 3) := by decide +kernel
theorem dX11_evenings_59 : decode cX11_evenings 59 = .ok (.lrem, 1) := by decide +kernel
theorem dX11_evenings_60 : decode cX11_evenings 60 = .ok (.lstore_n 3, 1) := by decide +kernel
theorem dX11_evenings_61 : decode cX11_evenings 61 = .ok (.lload_n 3, 1) := by decide +kernel
theorem dX11_evenings_62 : decode cX11_evenings 62 = .ok (.ldc2_w 255, 3) := by decide +kernel
theorem dX11_evenings_65 : decode cX11_evenings 65 = .ok (.ldiv, 1) := by decide +kernel
theorem dX11_evenings_66 : decode cX11_evenings 66 = .ok (.ldc2_w 218, 3) := by decide +kernel
theorem dX11_evenings_69 : decode cX11_evenings 69 = .ok (.lrem, 1) := by decide +kernel
theorem dX11_evenings_70 : decode cX11_evenings 70 = .ok (.l2i, 1) := by decide +kernel
theorem dX11_evenings_71 : decode cX11_evenings 71 = .ok (.istore 6, 2) := by decide +kernel
theorem dX11_evenings_73 : decode cX11_evenings 73 = .ok (.aload_n 0, 1) := by decide +kernel
theorem dX11_evenings_74 : decode cX11_evenings 74 = .ok (.iload 6, 2) := by decide +kernel
theorem dX11_evenings_76 : decode cX11_evenings 76 = .ok (.invokevirtual 185, 3) := by decide +kernel
theorem dX11_evenings_79 : decode cX11_evenings 79 = .ok (.ifCond .eq 25, 3) := by decide +kernel
theorem dX11_evenings_82 : decode cX11_evenings 82 = .ok (.aload_n 0, 1) := by decide +kernel
theorem dX11_evenings_83 : decode cX11_evenings 83 = .ok (.iload 6, 2) := by decide +kernel
theorem dX11_evenings_85 : decode cX11_evenings 85 = .ok (.lload_n 3, 1) := by decide +kernel
theorem dX11_evenings_86 : decode cX11_evenings 86 = .ok (.ldc2_w 257, 3) := by decide +kernel
theorem dX11_evenings_89 : decode cX11_evenings 89 = .ok (.ldiv, 1) := by decide +kernel
theorem dX11_evenings_90 : decode cX11_evenings 90 = .ok (.aload_n 0, 1) := by decide +kernel
theorem dX11_evenings_91 : decode cX11_evenings 91 = .ok (.getfield 7, 3) := by decide +kernel
theorem dX11_evenings_94 : decode cX11_evenings 94 = .ok (.iconst 1, 1) := by decide +kernel
theorem dX11_evenings_95 : decode cX11_evenings 95 = .ok (.iaload, 1) := by decide +kernel
theorem dX11_evenings_96 : decode cX11_evenings 96 = .ok (.i2l, 1) := by decide +kernel
theorem dX11_evenings_97 : decode cX11_evenings 97 = .ok (.lrem, 1) := by decide +kernel
theorem dX11_evenings_98 : decode cX11_evenings 98 = .ok (.l2i, 1) := by decide +kernel
theorem dX11_evenings_99 : decode cX11_evenings 99 = .ok (.iconst 1, 1) := by decide +kernel
theorem dX11_evenings_100 : decode cX11_evenings 100 = .ok (.iadd, 1) := by decide +kernel
theorem dX11_evenings_101 : decode cX11_evenings 101 = .ok (.invokevirtual 205, 3) := by decide +kernel
theorem dX11_evenings_104 : decode cX11_evenings 104 = .ok (.iinc 5 1, 3) := by decide +kernel
theorem dX11_evenings_107 : decode cX11_evenings 107 = .ok (.goto (-66), 3) := by decide +kernel
theorem dX11_evenings_110 : decode cX11_evenings 110 = .ok (.aload_n 0, 1) := by decide +kernel
theorem dX11_evenings_111 : decode cX11_evenings 111 = .ok (.sipush 812, 3) := by decide +kernel
theorem dX11_evenings_114 : decode cX11_evenings 114 = .ok (.invokevirtual 194, 3) := by decide +kernel
theorem dX11_evenings_117 : decode cX11_evenings 117 = .ok (.ireturn, 1) := by decide +kernel
def fX11_evenings_24 (v0 : Nat) (h : gx_H) : Option (Int32 × gx_H) :=
  gx_bd (fX11_bad v0 (-2 : Int32) h) fun x8 h7 =>
  some (x8, h7)
def fX11_evenings_104 (k41 : Nat → Int32 → Int64 → Int32 → gx_H → Option (Int32 × gx_H)) (v0 : Nat) (v2 : Int32) (v3 : Int64) (v5 : Int32) (h : gx_H) : Option (Int32 × gx_H) :=
  k41 v0 v2 v3 (v5 + (1 : Int32)) h
def bX11_evenings_41 (k41 : Nat → Int32 → Int64 → Int32 → gx_H → Option (Int32 × gx_H)) (v0 : Nat) (v2 : Int32) (v3 : Int64) (v5 : Int32) (h : gx_H) : Option (Int32 × gx_H) :=
  if v2 ≤ v5 then
    gx_bd (fX11_homes v0 (812 : Int32) h) fun x10 h9 =>
    some (x10, h9)
  else
    (gx_rJ ((v3 * (1103515245 : Int64)) + (12345 : Int64)) (2147483648 : Int64)).bind fun z11 =>
    (gx_dJ z11 (65536 : Int64)).bind fun z12 =>
    (gx_rJ z12 (4 : Int64)).bind fun z13 =>
    gx_bd (fX11_isPlayer v0 ((z13).toInt32) h) fun x15 h14 =>
    if x15 = 0 then
      fX11_evenings_104 k41 v0 v2 z11 v5 h14
    else
      (gx_dJ z11 (1048576 : Int64)).bind fun z16 =>
      (gx_fR h14 v0 9 0).bind fun a17 =>
      (gx_aI 0 h14 a17 (1 : Int32)).bind fun x18 =>
      (gx_rJ z16 ((x18).toInt64)).bind fun z19 =>
      gx_bd (fX11_rollsTried v0 ((z13).toInt32) (((z19).toInt32) + (1 : Int32)) h14) fun u21 h20 =>
      fX11_evenings_104 k41 v0 v2 z11 v5 h20
def fX11_evenings_41 : Nat → Nat → Int32 → Int64 → Int32 → gx_H → Option (Int32 × gx_H)
  | 0 => fun _ _ _ _ _ => none
  | n + 1 => bX11_evenings_41 (fX11_evenings_41 n)
def fX11_evenings (v0 : Nat) (v1 : Int32) (v2 : Int32) (h : gx_H) : Option (Int32 × gx_H) :=
  (gx_isO h v0 9).bind fun _ =>
  gx_bd (fX11_in ((v1).toInt64) (0 : Int64) (999999 : Int64) h) fun x2 h1 =>
  if x2 = 0 then
    fX11_evenings_24 v0 h1
  else
    gx_bd (fX11_in ((v2).toInt64) (0 : Int64) (60 : Int64) h1) fun x4 h3 =>
    if x4 = 0 then
      fX11_evenings_24 v0 h3
    else
      gx_bd (fX11_tries v0 h3) fun u6 h5 =>
      fX11_evenings_41 gx_N v0 v2 ((v1).toInt64) (0 : Int32) h5
set_option maxRecDepth 100000 in
set_option maxHeartbeats 4000000 in
theorem gX11_evenings_24 {E : gx_Env} {d : Nat}  : ∀ (v0 : Nat) (h : gx_H), gx_G E RX11 cX11_evenings 7 (some .int) false (d + 5) 0 0 24 [some (.ref v0), none, none, none, none, none, none] [] h (fun x : Int32 => some (.int x)) (fX11_evenings_24 v0 h) := by
  intro v0 h
  unfold fX11_evenings_24
  refine gx_aload_n 0 dX11_evenings_24 rfl rfl ?_
  refine gx_bipush (-2 : Int32) dX11_evenings_25 (by decide) ?_
  refine gx_callV (ci := 9) (bc := 0) (bs := 0) (mc := 0) (ms := 0) (em' := (fun x : Int32 => some (.int x))) [.int (-2 : Int32)] kc_RX11_81 rfl dX11_evenings_27 rfl rfl (gx_w8 rfl) (fun x q => (gx_isO_of (by unfold fX11_bad at q; exact q)).2) (fun _ _ q => okX11_bad (d + 4) q) (fun x8 h7 => ?_)
  exact gx_iret dX11_evenings_30 rfl
set_option maxRecDepth 100000 in
set_option maxHeartbeats 4000000 in
theorem gX11_evenings_104 {E : gx_Env} {d : Nat} (k41 : Nat → Int32 → Int64 → Int32 → gx_H → Option (Int32 × gx_H)) (hk41 : ∀ (v0 : Nat) (v2 : Int32) (v3 : Int64) (v5 : Int32) (h : gx_H), gx_G E RX11 cX11_evenings 7 (some .int) false (d + 5) 0 0 41 [some (.ref v0), none, some (.int v2), some (.long v3), none, some (.int v5), none] [] h (fun x : Int32 => some (.int x)) (k41 v0 v2 v3 v5 h))  : ∀ (v0 : Nat) (v2 : Int32) (v3 : Int64) (v5 : Int32) (h : gx_H), gx_G E RX11 cX11_evenings 7 (some .int) false (d + 5) 0 0 104 [some (.ref v0), none, some (.int v2), some (.long v3), none, some (.int v5), none] [] h (fun x : Int32 => some (.int x)) (fX11_evenings_104 k41 v0 v2 v3 v5 h) := by
  intro v0 v2 v3 v5 h
  unfold fX11_evenings_104
  refine gx_iinc (1 : Int32) [some (.ref v0), none, some (.int v2), some (.long v3), none, some (.int (v5 + (1 : Int32))), none] dX11_evenings_104 rfl (by decide) (by decide) rfl ?_
  refine gx_goto 41 dX11_evenings_107 (by decide) ?_
  exact gx_sub (hk41 v0 v2 v3 (v5 + (1 : Int32)) h) (And.intro rfl (And.intro rfl (And.intro rfl (And.intro rfl True.intro))))
set_option maxRecDepth 100000 in
set_option maxHeartbeats 4000000 in
theorem gbX11_evenings_41 {E : gx_Env} {d : Nat}  (k41 : Nat → Int32 → Int64 → Int32 → gx_H → Option (Int32 × gx_H)) (hk41 : ∀ (v0 : Nat) (v2 : Int32) (v3 : Int64) (v5 : Int32) (h : gx_H), gx_G E RX11 cX11_evenings 7 (some .int) false (d + 5) 0 0 41 [some (.ref v0), none, some (.int v2), some (.long v3), none, some (.int v5), none] [] h (fun x : Int32 => some (.int x)) (k41 v0 v2 v3 v5 h))  : ∀ (v0 : Nat) (v2 : Int32) (v3 : Int64) (v5 : Int32) (h : gx_H), gx_G E RX11 cX11_evenings 7 (some .int) false (d + 5) 0 0 41 [some (.ref v0), none, some (.int v2), some (.long v3), none, some (.int v5), none] [] h (fun x : Int32 => some (.int x)) (bX11_evenings_41 k41 v0 v2 v3 v5 h) := by
  intro v0 v2 v3 v5 h
  unfold bX11_evenings_41
  refine gx_iload dX11_evenings_41 rfl ?_
  refine gx_iload_n 2 dX11_evenings_43 rfl rfl ?_
  refine gx_icmp_ge 110 dX11_evenings_44 (by decide) (fun _ => ?_) (fun _ => ?_)
  · refine gx_aload_n 0 dX11_evenings_110 rfl rfl ?_
    refine gx_sipush (812 : Int32) dX11_evenings_111 (by decide) ?_
    refine gx_callV (ci := 9) (bc := 0) (bs := 0) (mc := 0) (ms := 0) (em' := (fun x : Int32 => some (.int x))) [.int (812 : Int32)] kc_RX11_194 rfl dX11_evenings_114 rfl rfl (gx_w8 rfl) (fun x q => (gx_isO_of (by unfold fX11_homes at q; exact q)).2) (fun _ _ q => okX11_homes (d + 3) q) (fun x10 h9 => ?_)
    exact gx_iret dX11_evenings_117 rfl
  · refine gx_lload_n 3 dX11_evenings_47 rfl rfl ?_
    refine gx_ldc2 kk_RX11_249 dX11_evenings_48 ?_
    refine gx_lmul dX11_evenings_51 ?_
    refine gx_ldc2 kk_RX11_251 dX11_evenings_52 ?_
    refine gx_ladd dX11_evenings_55 ?_
    refine gx_ldc2 kk_RX11_253 dX11_evenings_56 ?_
    refine gx_lrem dX11_evenings_59 (fun z11 => ?_)
    refine gx_lstore_n 3 [some (.ref v0), none, some (.int v2), some (.long z11), none, some (.int v5), none] dX11_evenings_60 rfl (by decide) rfl ?_
    refine gx_lload_n 3 dX11_evenings_61 rfl rfl ?_
    refine gx_ldc2 kk_RX11_255 dX11_evenings_62 ?_
    refine gx_ldiv dX11_evenings_65 (fun z12 => ?_)
    refine gx_ldc2 kk_RX11_218 dX11_evenings_66 ?_
    refine gx_lrem dX11_evenings_69 (fun z13 => ?_)
    refine gx_l2i dX11_evenings_70 ?_
    refine gx_istore [some (.ref v0), none, some (.int v2), some (.long z11), none, some (.int v5), some (.int ((z13).toInt32))] dX11_evenings_71 (by decide) rfl ?_
    refine gx_aload_n 0 dX11_evenings_73 rfl rfl ?_
    refine gx_iload dX11_evenings_74 rfl ?_
    refine gx_callV (ci := 9) (bc := 0) (bs := 0) (mc := 0) (ms := 0) (em' := (fun x : Int32 => some (.int x))) [.int ((z13).toInt32)] kc_RX11_185 rfl dX11_evenings_76 rfl rfl (gx_w8 rfl) (fun x q => (gx_isO_of (by unfold fX11_isPlayer at q; exact q)).2) (fun _ _ q => okX11_isPlayer (d + 3) q) (fun x15 h14 => ?_)
    refine gx_if_eq 104 dX11_evenings_79 (by decide) (fun _ => ?_) (fun _ => ?_)
    · exact gx_sub (gX11_evenings_104 k41 hk41 v0 v2 z11 v5 h14) (And.intro rfl (And.intro rfl (And.intro rfl (And.intro rfl True.intro))))
    · refine gx_aload_n 0 dX11_evenings_82 rfl rfl ?_
      refine gx_iload dX11_evenings_83 rfl ?_
      refine gx_lload_n 3 dX11_evenings_85 rfl rfl ?_
      refine gx_ldc2 kk_RX11_257 dX11_evenings_86 ?_
      refine gx_ldiv dX11_evenings_89 (fun z16 => ?_)
      refine gx_aload_n 0 dX11_evenings_90 rfl rfl ?_
      refine gx_getR kf_RX11_7 dX11_evenings_91 (fun a17 => ?_)
      refine gx_iconst (1 : Int32) dX11_evenings_94 (by decide) ?_
      refine gx_iald dX11_evenings_95 (fun x18 => ?_)
      refine gx_i2l dX11_evenings_96 ?_
      refine gx_lrem dX11_evenings_97 (fun z19 => ?_)
      refine gx_l2i dX11_evenings_98 ?_
      refine gx_iconst (1 : Int32) dX11_evenings_99 (by decide) ?_
      refine gx_iadd dX11_evenings_100 ?_
      refine gx_callV (ci := 9) (bc := 0) (bs := 0) (mc := 0) (ms := 0) (em' := (fun _ : Unit => none)) [.int ((z13).toInt32), .int (((z19).toInt32) + (1 : Int32))] kc_RX11_205 rfl dX11_evenings_101 rfl rfl (gx_w8 rfl) (fun x q => (gx_isO_of (by unfold fX11_rollsTried at q; exact q)).2) (fun _ _ q => okX11_rollsTried d q) (fun u21 h20 => ?_)
      exact gx_sub (gX11_evenings_104 k41 hk41 v0 v2 z11 v5 h20) (And.intro rfl (And.intro rfl (And.intro rfl (And.intro rfl True.intro))))
set_option maxRecDepth 100000 in
set_option maxHeartbeats 4000000 in
theorem gX11_evenings_41 {E : gx_Env} {d : Nat}  : ∀ (n : Nat) (v0 : Nat) (v2 : Int32) (v3 : Int64) (v5 : Int32) (h : gx_H), gx_G E RX11 cX11_evenings 7 (some .int) false (d + 5) 0 0 41 [some (.ref v0), none, some (.int v2), some (.long v3), none, some (.int v5), none] [] h (fun x : Int32 => some (.int x)) (fX11_evenings_41 n v0 v2 v3 v5 h) := by
  intro n
  induction n with
  | zero => intro v0 v2 v3 v5 h; exact gx_none
  | succ n ih => exact gbX11_evenings_41  (fX11_evenings_41  n) ih
set_option maxRecDepth 100000 in
set_option maxHeartbeats 4000000 in
theorem geX11_evenings {E : gx_Env} {d : Nat} (v0 : Nat) (v1 : Int32) (v2 : Int32) (h : gx_H) : gx_G E RX11 cX11_evenings 7 (some .int) false (d + 5) 0 0 0 [some (.ref v0), some (.int v1), some (.int v2), none, none, none, none] [] h (fun x : Int32 => some (.int x)) (fX11_evenings v0 v1 v2 h) := by
  unfold fX11_evenings
  refine gx_bind fun _ _ => ?_
  refine gx_iload_n 1 dX11_evenings_0 rfl rfl ?_
  refine gx_i2l dX11_evenings_1 ?_
  refine gx_lconst (0 : Int64) dX11_evenings_2 (by decide) ?_
  refine gx_ldc2 kk_RX11_245 dX11_evenings_3 ?_
  refine gx_callS (bc := 0) (bs := 0) (mc := 0) (ms := 0) (em' := (fun x : Int32 => some (.int x))) [.long ((v1).toInt64), .long (0 : Int64), .long (999999 : Int64)] kc_RX11_39 dX11_evenings_6 rfl rfl (gx_w8 rfl) (fun _ _ q => okX11_in (d + 4) q) (fun x2 h1 => ?_)
  refine gx_if_eq 24 dX11_evenings_9 (by decide) (fun _ => ?_) (fun _ => ?_)
  · exact gx_sub (gX11_evenings_24 v0 h1) (And.intro rfl True.intro)
  · refine gx_iload_n 2 dX11_evenings_12 rfl rfl ?_
    refine gx_i2l dX11_evenings_13 ?_
    refine gx_lconst (0 : Int64) dX11_evenings_14 (by decide) ?_
    refine gx_ldc2 kk_RX11_247 dX11_evenings_15 ?_
    refine gx_callS (bc := 0) (bs := 0) (mc := 0) (ms := 0) (em' := (fun x : Int32 => some (.int x))) [.long ((v2).toInt64), .long (0 : Int64), .long (60 : Int64)] kc_RX11_39 dX11_evenings_18 rfl rfl (gx_w8 rfl) (fun _ _ q => okX11_in (d + 4) q) (fun x4 h3 => ?_)
    refine gx_if_ne 31 dX11_evenings_21 (by decide) (fun _ => ?_) (fun _ => ?_)
    · refine gx_aload_n 0 dX11_evenings_31 rfl rfl ?_
      refine gx_callV (ci := 9) (bc := 0) (bs := 0) (mc := 0) (ms := 0) (em' := (fun _ : Unit => none)) [] kc_RX11_208 rfl dX11_evenings_32 rfl rfl (gx_w8 rfl) (fun x q => (gx_isO_of (by unfold fX11_tries at q; exact q)).2) (fun _ _ q => okX11_tries (d + 4) q) (fun u6 h5 => ?_)
      refine gx_iload_n 1 dX11_evenings_35 rfl rfl ?_
      refine gx_i2l dX11_evenings_36 ?_
      refine gx_lstore_n 3 [some (.ref v0), some (.int v1), some (.int v2), some (.long ((v1).toInt64)), none, none, none] dX11_evenings_37 rfl (by decide) rfl ?_
      refine gx_iconst (0 : Int32) dX11_evenings_38 (by decide) ?_
      refine gx_istore [some (.ref v0), some (.int v1), some (.int v2), some (.long ((v1).toInt64)), none, some (.int (0 : Int32)), none] dX11_evenings_39 (by decide) rfl ?_
      exact gx_sub (gX11_evenings_41 gx_N v0 v2 ((v1).toInt64) (0 : Int32) h5) (And.intro rfl (And.intro rfl (And.intro rfl (And.intro rfl True.intro))))
    · exact gx_sub (gX11_evenings_24 v0 h3) (And.intro rfl True.intro)
theorem okX11_evenings {E : gx_Env} (d : Nat) {v0 : Nat} {v1 : Int32} {v2 : Int32} {h : gx_H} {r : Int32} {h1 : gx_H} (q : fX11_evenings v0 v1 v2 h = some (r, h1)) : gx_M E yX11_evenings cX11_evenings 7 (some .int) (d + 5) 0 0 [.ref v0, .int v1, .int v2] h ((fun x : Int32 => some (.int x)) r) h1 := gx_meth (y := yX11_evenings) (cc := cX11_evenings) (nL := 7) (em := (fun x : Int32 => some (.int x))) (ini := false) [.ref v0, .int v1, .int v2] (by decide) (by simp [gx_sl]) (fun q => by cases q) (geX11_evenings v0 v1 v2 h) q
theorem dX11_part_0 : decode cX11_part 0 = .ok (.iload_n 1, 1) := by decide +kernel
theorem dX11_part_1 : decode cX11_part 1 = .ok (.ifCond .ne 10, 3) := by decide +kernel
theorem dX11_part_4 : decode cX11_part 4 = .ok (.aload_n 0, 1) := by decide +kernel
theorem dX11_part_5 : decode cX11_part 5 = .ok (.getfield 20, 3) := by decide +kernel
theorem dX11_part_8 : decode cX11_part 8 = .ok (.goto 22, 3) := by decide +kernel
theorem dX11_part_11 : decode cX11_part 11 = .ok (.iload_n 1, 1) := by decide +kernel
theorem dX11_part_12 : decode cX11_part 12 = .ok (.iconst 1, 1) := by decide +kernel
theorem dX11_part_13 : decode cX11_part 13 = .ok (.if_icmp .ne 10, 3) := by decide +kernel
theorem dX11_part_16 : decode cX11_part 16 = .ok (.aload_n 0, 1) := by decide +kernel
theorem dX11_part_17 : decode cX11_part 17 = .ok (.getfield 24, 3) := by decide +kernel
theorem dX11_part_20 : decode cX11_part 20 = .ok (.goto 10, 3) := by decide +kernel
theorem dX11_part_23 : decode cX11_part 23 = .ok (.aload_n 0, 1) := by decide +kernel
theorem dX11_part_24 : decode cX11_part 24 = .ok (.bipush (-2), 2) := by decide +kernel
theorem dX11_part_26 : decode cX11_part 26 = .ok (.invokevirtual 81, 3) := by decide +kernel
theorem dX11_part_29 : decode cX11_part 29 = .ok (.i2l, 1) := by decide +kernel
theorem dX11_part_30 : decode cX11_part 30 = .ok (.lreturn, 1) := by decide +kernel
def fX11_part_30 (s0 : Int64) (h : gx_H) : Option (Int64 × gx_H) :=
  some (s0, h)
def fX11_part (v0 : Nat) (v1 : Int32) (h : gx_H) : Option (Int64 × gx_H) :=
  (gx_isO h v0 9).bind fun _ =>
  if v1 = 0 then
    (gx_fJ h v0 9 4).bind fun y4 =>
    fX11_part_30 y4 h
  else
    if v1 = (1 : Int32) then
      (gx_fJ h v0 9 5).bind fun y3 =>
      fX11_part_30 y3 h
    else
      gx_bd (fX11_bad v0 (-2 : Int32) h) fun x2 h1 =>
      fX11_part_30 ((x2).toInt64) h1
set_option maxRecDepth 100000 in
set_option maxHeartbeats 4000000 in
theorem gX11_part_30 {E : gx_Env} {d : Nat}  : ∀ (s0 : Int64) (h : gx_H), gx_G E RX11 cX11_part 2 (some .long) false (d + 1) 0 0 30 [none, none] [.long s0] h (fun x : Int64 => some (.long x)) (fX11_part_30 s0 h) := by
  intro s0 h
  unfold fX11_part_30
  exact gx_lret dX11_part_30 rfl
set_option maxRecDepth 100000 in
set_option maxHeartbeats 4000000 in
theorem geX11_part {E : gx_Env} {d : Nat} (v0 : Nat) (v1 : Int32) (h : gx_H) : gx_G E RX11 cX11_part 2 (some .long) false (d + 1) 0 0 0 [some (.ref v0), some (.int v1)] [] h (fun x : Int64 => some (.long x)) (fX11_part v0 v1 h) := by
  unfold fX11_part
  refine gx_bind fun _ _ => ?_
  refine gx_iload_n 1 dX11_part_0 rfl rfl ?_
  refine gx_if_ne 11 dX11_part_1 (by decide) (fun _ => ?_) (fun _ => ?_)
  · refine gx_iload_n 1 dX11_part_11 rfl rfl ?_
    refine gx_iconst (1 : Int32) dX11_part_12 (by decide) ?_
    refine gx_icmp_ne 23 dX11_part_13 (by decide) (fun _ => ?_) (fun _ => ?_)
    · refine gx_aload_n 0 dX11_part_23 rfl rfl ?_
      refine gx_bipush (-2 : Int32) dX11_part_24 (by decide) ?_
      refine gx_callV (ci := 9) (bc := 0) (bs := 0) (mc := 0) (ms := 0) (em' := (fun x : Int32 => some (.int x))) [.int (-2 : Int32)] kc_RX11_81 rfl dX11_part_26 rfl rfl (gx_w8 rfl) (fun x q => (gx_isO_of (by unfold fX11_bad at q; exact q)).2) (fun _ _ q => okX11_bad d q) (fun x2 h1 => ?_)
      refine gx_i2l dX11_part_29 ?_
      exact gx_sub (gX11_part_30 ((x2).toInt64) h1) True.intro
    · refine gx_aload_n 0 dX11_part_16 rfl rfl ?_
      refine gx_getJ kf_RX11_24 dX11_part_17 (fun y3 => ?_)
      refine gx_goto 30 dX11_part_20 (by decide) ?_
      exact gx_sub (gX11_part_30 y3 h) True.intro
  · refine gx_aload_n 0 dX11_part_4 rfl rfl ?_
    refine gx_getJ kf_RX11_20 dX11_part_5 (fun y4 => ?_)
    refine gx_goto 30 dX11_part_8 (by decide) ?_
    exact gx_sub (gX11_part_30 y4 h) True.intro
theorem okX11_part {E : gx_Env} (d : Nat) {v0 : Nat} {v1 : Int32} {h : gx_H} {r : Int64} {h1 : gx_H} (q : fX11_part v0 v1 h = some (r, h1)) : gx_M E yX11_part cX11_part 2 (some .long) (d + 1) 0 0 [.ref v0, .int v1] h ((fun x : Int64 => some (.long x)) r) h1 := gx_meth (y := yX11_part) (cc := cX11_part) (nL := 2) (em := (fun x : Int64 => some (.long x))) (ini := false) [.ref v0, .int v1] (by decide) (by simp [gx_sl]) (fun q => by cases q) (geX11_part v0 v1 h) q
theorem dX11_image_0 : decode cX11_image 0 = .ok (.iload_n 1, 1) := by decide +kernel
theorem dX11_image_1 : decode cX11_image 1 = .ok (.i2l, 1) := by decide +kernel
theorem dX11_image_2 : decode cX11_image 2 = .ok (.lconst 0, 1) := by decide +kernel
theorem dX11_image_3 : decode cX11_image 3 = .ok (.lconst 1, 1) := by decide +kernel
theorem dX11_image_4 : decode cX11_image 4 = .ok (.invokestatic 39, 3) := by decide +kernel
theorem dX11_image_7 : decode cX11_image 7 = .ok (.ifCond .ne 10, 3) := by decide +kernel
theorem dX11_image_10 : decode cX11_image 10 = .ok (.aload_n 0, 1) := by decide +kernel
theorem dX11_image_11 : decode cX11_image 11 = .ok (.bipush (-2), 2) := by decide +kernel
theorem dX11_image_13 : decode cX11_image 13 = .ok (.invokevirtual 81, 3) := by decide +kernel
theorem dX11_image_16 : decode cX11_image 16 = .ok (.ireturn, 1) := by decide +kernel
theorem dX11_image_17 : decode cX11_image 17 = .ok (.aload_n 0, 1) := by decide +kernel
theorem dX11_image_18 : decode cX11_image 18 = .ok (.iconst 0, 1) := by decide +kernel
theorem dX11_image_19 : decode cX11_image 19 = .ok (.sipush 203, 3) := by decide +kernel
theorem dX11_image_22 : decode cX11_image 22 = .ok (.sipush 203, 3) := by decide +kernel
theorem dX11_image_25 : decode cX11_image 25 = .ok (.iload_n 1, 1) := by decide +kernel
theorem dX11_image_26 : decode cX11_image 26 = .ok (.imul, 1) := by decide +kernel
theorem dX11_image_27 : decode cX11_image 27 = .ok (.iadd, 1) := by decide +kernel
theorem dX11_image_28 : decode cX11_image 28 = .ok (.invokevirtual 182, 3) := by decide +kernel
theorem dX11_image_31 : decode cX11_image 31 = .ok (.aload_n 0, 1) := by decide +kernel
theorem dX11_image_32 : decode cX11_image 32 = .ok (.getfield 13, 3) := by decide +kernel
theorem dX11_image_35 : decode cX11_image 35 = .ok (.iload_n 1, 1) := by decide +kernel
theorem dX11_image_36 : decode cX11_image 36 = .ok (.iconst 1, 1) := by decide +kernel
theorem dX11_image_37 : decode cX11_image 37 = .ok (.bastore, 1) := by decide +kernel
theorem dX11_image_38 : decode cX11_image 38 = .ok (.iconst 1, 1) := by decide +kernel
theorem dX11_image_39 : decode cX11_image 39 = .ok (.ireturn, 1) := by decide +kernel
def fX11_image (v0 : Nat) (v1 : Int32) (h : gx_H) : Option (Int32 × gx_H) :=
  (gx_isO h v0 9).bind fun _ =>
  gx_bd (fX11_in ((v1).toInt64) (0 : Int64) (1 : Int64) h) fun x2 h1 =>
  if x2 = 0 then
    gx_bd (fX11_bad v0 (-2 : Int32) h1) fun x8 h7 =>
    some (x8, h7)
  else
    gx_bd (fX11_copy v0 (0 : Int32) ((203 : Int32) + ((203 : Int32) * v1)) h1) fun u4 h3 =>
    (gx_fR h3 v0 9 1).bind fun a5 =>
    (gx_sI 2 h3 a5 v1 (vp_nar .boolean (1 : Int32))).bind fun h6 =>
    some ((1 : Int32), h6)
set_option maxRecDepth 100000 in
set_option maxHeartbeats 4000000 in
theorem geX11_image {E : gx_Env} {d : Nat} (v0 : Nat) (v1 : Int32) (h : gx_H) : gx_G E RX11 cX11_image 2 (some .int) false (d + 1) 0 0 0 [some (.ref v0), some (.int v1)] [] h (fun x : Int32 => some (.int x)) (fX11_image v0 v1 h) := by
  unfold fX11_image
  refine gx_bind fun _ _ => ?_
  refine gx_iload_n 1 dX11_image_0 rfl rfl ?_
  refine gx_i2l dX11_image_1 ?_
  refine gx_lconst (0 : Int64) dX11_image_2 (by decide) ?_
  refine gx_lconst (1 : Int64) dX11_image_3 (by decide) ?_
  refine gx_callS (bc := 0) (bs := 0) (mc := 0) (ms := 0) (em' := (fun x : Int32 => some (.int x))) [.long ((v1).toInt64), .long (0 : Int64), .long (1 : Int64)] kc_RX11_39 dX11_image_4 rfl rfl (gx_w8 rfl) (fun _ _ q => okX11_in d q) (fun x2 h1 => ?_)
  refine gx_if_ne 17 dX11_image_7 (by decide) (fun _ => ?_) (fun _ => ?_)
  · refine gx_aload_n 0 dX11_image_17 rfl rfl ?_
    refine gx_iconst (0 : Int32) dX11_image_18 (by decide) ?_
    refine gx_sipush (203 : Int32) dX11_image_19 (by decide) ?_
    refine gx_sipush (203 : Int32) dX11_image_22 (by decide) ?_
    refine gx_iload_n 1 dX11_image_25 rfl rfl ?_
    refine gx_imul dX11_image_26 ?_
    refine gx_iadd dX11_image_27 ?_
    refine gx_callV (ci := 9) (bc := 0) (bs := 0) (mc := 0) (ms := 0) (em' := (fun _ : Unit => none)) [.int (0 : Int32), .int ((203 : Int32) + ((203 : Int32) * v1))] kc_RX11_182 rfl dX11_image_28 rfl rfl (gx_w8 rfl) (fun x q => (gx_isO_of (by unfold fX11_copy at q; exact q)).2) (fun _ _ q => okX11_copy d q) (fun u4 h3 => ?_)
    refine gx_aload_n 0 dX11_image_31 rfl rfl ?_
    refine gx_getR kf_RX11_13 dX11_image_32 (fun a5 => ?_)
    refine gx_iload_n 1 dX11_image_35 rfl rfl ?_
    refine gx_iconst (1 : Int32) dX11_image_36 (by decide) ?_
    refine gx_zast dX11_image_37 (fun h6 => ?_)
    refine gx_iconst (1 : Int32) dX11_image_38 (by decide) ?_
    exact gx_iret dX11_image_39 rfl
  · refine gx_aload_n 0 dX11_image_10 rfl rfl ?_
    refine gx_bipush (-2 : Int32) dX11_image_11 (by decide) ?_
    refine gx_callV (ci := 9) (bc := 0) (bs := 0) (mc := 0) (ms := 0) (em' := (fun x : Int32 => some (.int x))) [.int (-2 : Int32)] kc_RX11_81 rfl dX11_image_13 rfl rfl (gx_w8 rfl) (fun x q => (gx_isO_of (by unfold fX11_bad at q; exact q)).2) (fun _ _ q => okX11_bad d q) (fun x8 h7 => ?_)
    exact gx_iret dX11_image_16 rfl
theorem okX11_image {E : gx_Env} (d : Nat) {v0 : Nat} {v1 : Int32} {h : gx_H} {r : Int32} {h1 : gx_H} (q : fX11_image v0 v1 h = some (r, h1)) : gx_M E yX11_image cX11_image 2 (some .int) (d + 1) 0 0 [.ref v0, .int v1] h ((fun x : Int32 => some (.int x)) r) h1 := gx_meth (y := yX11_image) (cc := cX11_image) (nL := 2) (em := (fun x : Int32 => some (.int x))) (ini := false) [.ref v0, .int v1] (by decide) (by simp [gx_sl]) (fun q => by cases q) (geX11_image v0 v1 h) q
theorem dX11_from_0 : decode cX11_from 0 = .ok (.iload_n 1, 1) := by decide +kernel
theorem dX11_from_1 : decode cX11_from 1 = .ok (.i2l, 1) := by decide +kernel
theorem dX11_from_2 : decode cX11_from 2 = .ok (.lconst 0, 1) := by decide +kernel
theorem dX11_from_3 : decode cX11_from 3 = .ok (.lconst 1, 1) := by decide +kernel
theorem dX11_from_4 : decode cX11_from 4 = .ok (.invokestatic 39, 3) := by decide +kernel
theorem dX11_from_7 : decode cX11_from 7 = .ok (.ifCond .ne 10, 3) := by decide +kernel
theorem dX11_from_10 : decode cX11_from 10 = .ok (.aload_n 0, 1) := by decide +kernel
theorem dX11_from_11 : decode cX11_from 11 = .ok (.bipush (-2), 2) := by decide +kernel
theorem dX11_from_13 : decode cX11_from 13 = .ok (.invokevirtual 81, 3) := by decide +kernel
theorem dX11_from_16 : decode cX11_from 16 = .ok (.ireturn, 1) := by decide +kernel
theorem dX11_from_17 : decode cX11_from 17 = .ok (.aload_n 0, 1) := by decide +kernel
theorem dX11_from_18 : decode cX11_from 18 = .ok (.getfield 13, 3) := by decide +kernel
theorem dX11_from_21 : decode cX11_from 21 = .ok (.iload_n 1, 1) := by decide +kernel
theorem dX11_from_22 : decode cX11_from 22 = .ok (.baload, 1) := by decide +kernel
theorem dX11_from_23 : decode cX11_from 23 = .ok (.ifCond .ne 8, 3) := by decide +kernel
theorem dX11_from_26 : decode cX11_from 26 = .ok (.aload_n 0, 1) := by decide +kernel
theorem dX11_from_27 : decode cX11_from 27 = .ok (.invokevirtual 94, 3) := by decide +kernel
theorem dX11_from_30 : decode cX11_from 30 = .ok (.ireturn, 1) := by decide +kernel
theorem dX11_from_31 : decode cX11_from 31 = .ok (.aload_n 0, 1) := by decide +kernel
theorem dX11_from_32 : decode cX11_from 32 = .ok (.sipush 203, 3) := by decide +kernel
theorem dX11_from_35 : decode cX11_from 35 = .ok (.sipush 203, 3) := by decide +kernel
theorem dX11_from_38 : decode cX11_from 38 = .ok (.iload_n 1, 1) := by decide +kernel
theorem dX11_from_39 : decode cX11_from 39 = .ok (.imul, 1) := by decide +kernel
theorem dX11_from_40 : decode cX11_from 40 = .ok (.iadd, 1) := by decide +kernel
theorem dX11_from_41 : decode cX11_from 41 = .ok (.iconst 0, 1) := by decide +kernel
theorem dX11_from_42 : decode cX11_from 42 = .ok (.invokevirtual 182, 3) := by decide +kernel
theorem dX11_from_45 : decode cX11_from 45 = .ok (.iconst 1, 1) := by decide +kernel
theorem dX11_from_46 : decode cX11_from 46 = .ok (.ireturn, 1) := by decide +kernel
def fX11_from (v0 : Nat) (v1 : Int32) (h : gx_H) : Option (Int32 × gx_H) :=
  (gx_isO h v0 9).bind fun _ =>
  gx_bd (fX11_in ((v1).toInt64) (0 : Int64) (1 : Int64) h) fun x2 h1 =>
  if x2 = 0 then
    gx_bd (fX11_bad v0 (-2 : Int32) h1) fun x10 h9 =>
    some (x10, h9)
  else
    (gx_fR h1 v0 9 1).bind fun a3 =>
    (gx_aI 2 h1 a3 v1).bind fun x4 =>
    if x4 = 0 then
      gx_bd (fX11_no v0 h1) fun x8 h7 =>
      some (x8, h7)
    else
      gx_bd (fX11_copy v0 ((203 : Int32) + ((203 : Int32) * v1)) (0 : Int32) h1) fun u6 h5 =>
      some ((1 : Int32), h5)
set_option maxRecDepth 100000 in
set_option maxHeartbeats 4000000 in
theorem geX11_from {E : gx_Env} {d : Nat} (v0 : Nat) (v1 : Int32) (h : gx_H) : gx_G E RX11 cX11_from 2 (some .int) false (d + 1) 0 0 0 [some (.ref v0), some (.int v1)] [] h (fun x : Int32 => some (.int x)) (fX11_from v0 v1 h) := by
  unfold fX11_from
  refine gx_bind fun _ _ => ?_
  refine gx_iload_n 1 dX11_from_0 rfl rfl ?_
  refine gx_i2l dX11_from_1 ?_
  refine gx_lconst (0 : Int64) dX11_from_2 (by decide) ?_
  refine gx_lconst (1 : Int64) dX11_from_3 (by decide) ?_
  refine gx_callS (bc := 0) (bs := 0) (mc := 0) (ms := 0) (em' := (fun x : Int32 => some (.int x))) [.long ((v1).toInt64), .long (0 : Int64), .long (1 : Int64)] kc_RX11_39 dX11_from_4 rfl rfl (gx_w8 rfl) (fun _ _ q => okX11_in d q) (fun x2 h1 => ?_)
  refine gx_if_ne 17 dX11_from_7 (by decide) (fun _ => ?_) (fun _ => ?_)
  · refine gx_aload_n 0 dX11_from_17 rfl rfl ?_
    refine gx_getR kf_RX11_13 dX11_from_18 (fun a3 => ?_)
    refine gx_iload_n 1 dX11_from_21 rfl rfl ?_
    refine gx_zald dX11_from_22 (fun x4 => ?_)
    refine gx_if_ne 31 dX11_from_23 (by decide) (fun _ => ?_) (fun _ => ?_)
    · refine gx_aload_n 0 dX11_from_31 rfl rfl ?_
      refine gx_sipush (203 : Int32) dX11_from_32 (by decide) ?_
      refine gx_sipush (203 : Int32) dX11_from_35 (by decide) ?_
      refine gx_iload_n 1 dX11_from_38 rfl rfl ?_
      refine gx_imul dX11_from_39 ?_
      refine gx_iadd dX11_from_40 ?_
      refine gx_iconst (0 : Int32) dX11_from_41 (by decide) ?_
      refine gx_callV (ci := 9) (bc := 0) (bs := 0) (mc := 0) (ms := 0) (em' := (fun _ : Unit => none)) [.int ((203 : Int32) + ((203 : Int32) * v1)), .int (0 : Int32)] kc_RX11_182 rfl dX11_from_42 rfl rfl (gx_w8 rfl) (fun x q => (gx_isO_of (by unfold fX11_copy at q; exact q)).2) (fun _ _ q => okX11_copy d q) (fun u6 h5 => ?_)
      refine gx_iconst (1 : Int32) dX11_from_45 (by decide) ?_
      exact gx_iret dX11_from_46 rfl
    · refine gx_aload_n 0 dX11_from_26 rfl rfl ?_
      refine gx_callV (ci := 9) (bc := 0) (bs := 0) (mc := 0) (ms := 0) (em' := (fun x : Int32 => some (.int x))) [] kc_RX11_94 rfl dX11_from_27 rfl rfl (gx_w8 rfl) (fun x q => (gx_isO_of (by unfold fX11_no at q; exact q)).2) (fun _ _ q => okX11_no d q) (fun x8 h7 => ?_)
      exact gx_iret dX11_from_30 rfl
  · refine gx_aload_n 0 dX11_from_10 rfl rfl ?_
    refine gx_bipush (-2 : Int32) dX11_from_11 (by decide) ?_
    refine gx_callV (ci := 9) (bc := 0) (bs := 0) (mc := 0) (ms := 0) (em' := (fun x : Int32 => some (.int x))) [.int (-2 : Int32)] kc_RX11_81 rfl dX11_from_13 rfl rfl (gx_w8 rfl) (fun x q => (gx_isO_of (by unfold fX11_bad at q; exact q)).2) (fun _ _ q => okX11_bad d q) (fun x10 h9 => ?_)
    exact gx_iret dX11_from_16 rfl
theorem okX11_from {E : gx_Env} (d : Nat) {v0 : Nat} {v1 : Int32} {h : gx_H} {r : Int32} {h1 : gx_H} (q : fX11_from v0 v1 h = some (r, h1)) : gx_M E yX11_from cX11_from 2 (some .int) (d + 1) 0 0 [.ref v0, .int v1] h ((fun x : Int32 => some (.int x)) r) h1 := gx_meth (y := yX11_from) (cc := cX11_from) (nL := 2) (em := (fun x : Int32 => some (.int x))) (ini := false) [.ref v0, .int v1] (by decide) (by simp [gx_sl]) (fun q => by cases q) (geX11_from v0 v1 h) q
theorem dX11_status_0 : decode cX11_status 0 = .ok (.iload_n 1, 1) := by decide +kernel
theorem dX11_status_1 : decode cX11_status 1 = .ok (.i2l, 1) := by decide +kernel
theorem dX11_status_2 : decode cX11_status 2 = .ok (.lconst 0, 1) := by decide +kernel
theorem dX11_status_3 : decode cX11_status 3 = .ok (.ldc2_w 77, 3) := by decide +kernel
theorem dX11_status_6 : decode cX11_status 6 = .ok (.invokestatic 39, 3) := by decide +kernel
theorem dX11_status_9 : decode cX11_status 9 = .ok (.ifCond .eq 12, 3) := by decide +kernel
theorem dX11_status_12 : decode cX11_status 12 = .ok (.aload_n 0, 1) := by decide +kernel
theorem dX11_status_13 : decode cX11_status 13 = .ok (.getfield 27, 3) := by decide +kernel
theorem dX11_status_16 : decode cX11_status 16 = .ok (.iload_n 1, 1) := by decide +kernel
theorem dX11_status_17 : decode cX11_status 17 = .ok (.iaload, 1) := by decide +kernel
theorem dX11_status_18 : decode cX11_status 18 = .ok (.goto 8, 3) := by decide +kernel
theorem dX11_status_21 : decode cX11_status 21 = .ok (.aload_n 0, 1) := by decide +kernel
theorem dX11_status_22 : decode cX11_status 22 = .ok (.iconst (-1), 1) := by decide +kernel
theorem dX11_status_23 : decode cX11_status 23 = .ok (.invokevirtual 81, 3) := by decide +kernel
theorem dX11_status_26 : decode cX11_status 26 = .ok (.ireturn, 1) := by decide +kernel
def fX11_status_26 (s0 : Int32) (h : gx_H) : Option (Int32 × gx_H) :=
  some (s0, h)
def fX11_status (v0 : Nat) (v1 : Int32) (h : gx_H) : Option (Int32 × gx_H) :=
  (gx_isO h v0 9).bind fun _ =>
  gx_bd (fX11_in ((v1).toInt64) (0 : Int64) (2 : Int64) h) fun x2 h1 =>
  if x2 = 0 then
    gx_bd (fX11_bad v0 (-1 : Int32) h1) fun x4 h3 =>
    fX11_status_26 x4 h3
  else
    (gx_fR h1 v0 9 6).bind fun a5 =>
    (gx_aI 0 h1 a5 v1).bind fun x6 =>
    fX11_status_26 x6 h1
set_option maxRecDepth 100000 in
set_option maxHeartbeats 4000000 in
theorem gX11_status_26 {E : gx_Env} {d : Nat}  : ∀ (s0 : Int32) (h : gx_H), gx_G E RX11 cX11_status 2 (some .int) false (d + 1) 0 0 26 [none, none] [.int s0] h (fun x : Int32 => some (.int x)) (fX11_status_26 s0 h) := by
  intro s0 h
  unfold fX11_status_26
  exact gx_iret dX11_status_26 rfl
set_option maxRecDepth 100000 in
set_option maxHeartbeats 4000000 in
theorem geX11_status {E : gx_Env} {d : Nat} (v0 : Nat) (v1 : Int32) (h : gx_H) : gx_G E RX11 cX11_status 2 (some .int) false (d + 1) 0 0 0 [some (.ref v0), some (.int v1)] [] h (fun x : Int32 => some (.int x)) (fX11_status v0 v1 h) := by
  unfold fX11_status
  refine gx_bind fun _ _ => ?_
  refine gx_iload_n 1 dX11_status_0 rfl rfl ?_
  refine gx_i2l dX11_status_1 ?_
  refine gx_lconst (0 : Int64) dX11_status_2 (by decide) ?_
  refine gx_ldc2 kk_RX11_77 dX11_status_3 ?_
  refine gx_callS (bc := 0) (bs := 0) (mc := 0) (ms := 0) (em' := (fun x : Int32 => some (.int x))) [.long ((v1).toInt64), .long (0 : Int64), .long (2 : Int64)] kc_RX11_39 dX11_status_6 rfl rfl (gx_w8 rfl) (fun _ _ q => okX11_in d q) (fun x2 h1 => ?_)
  refine gx_if_eq 21 dX11_status_9 (by decide) (fun _ => ?_) (fun _ => ?_)
  · refine gx_aload_n 0 dX11_status_21 rfl rfl ?_
    refine gx_iconst (-1 : Int32) dX11_status_22 (by decide) ?_
    refine gx_callV (ci := 9) (bc := 0) (bs := 0) (mc := 0) (ms := 0) (em' := (fun x : Int32 => some (.int x))) [.int (-1 : Int32)] kc_RX11_81 rfl dX11_status_23 rfl rfl (gx_w8 rfl) (fun x q => (gx_isO_of (by unfold fX11_bad at q; exact q)).2) (fun _ _ q => okX11_bad d q) (fun x4 h3 => ?_)
    exact gx_sub (gX11_status_26 x4 h3) True.intro
  · refine gx_aload_n 0 dX11_status_12 rfl rfl ?_
    refine gx_getR kf_RX11_27 dX11_status_13 (fun a5 => ?_)
    refine gx_iload_n 1 dX11_status_16 rfl rfl ?_
    refine gx_iald dX11_status_17 (fun x6 => ?_)
    refine gx_goto 26 dX11_status_18 (by decide) ?_
    exact gx_sub (gX11_status_26 x6 h1) True.intro
theorem okX11_status {E : gx_Env} (d : Nat) {v0 : Nat} {v1 : Int32} {h : gx_H} {r : Int32} {h1 : gx_H} (q : fX11_status v0 v1 h = some (r, h1)) : gx_M E yX11_status cX11_status 2 (some .int) (d + 1) 0 0 [.ref v0, .int v1] h ((fun x : Int32 => some (.int x)) r) h1 := gx_meth (y := yX11_status) (cc := cX11_status) (nL := 2) (em := (fun x : Int32 => some (.int x))) (ini := false) [.ref v0, .int v1] (by decide) (by simp [gx_sl]) (fun q => by cases q) (geX11_status v0 v1 h) q
theorem dX11_sumOf_0 : decode cX11_sumOf 0 = .ok (.iconst 0, 1) := by decide +kernel
theorem dX11_sumOf_1 : decode cX11_sumOf 1 = .ok (.istore_n 3, 1) := by decide +kernel
theorem dX11_sumOf_2 : decode cX11_sumOf 2 = .ok (.iconst 0, 1) := by decide +kernel
theorem dX11_sumOf_3 : decode cX11_sumOf 3 = .ok (.istore 4, 2) := by decide +kernel
theorem dX11_sumOf_5 : decode cX11_sumOf 5 = .ok (.iload 4, 2) := by decide +kernel
theorem dX11_sumOf_7 : decode cX11_sumOf 7 = .ok (.iload_n 2, 1) := by decide +kernel
theorem dX11_sumOf_8 : decode cX11_sumOf 8 = .ok (.if_icmp .ge 21, 3) := by decide +kernel
theorem dX11_sumOf_11 : decode cX11_sumOf 11 = .ok (.iload_n 3, 1) := by decide +kernel
theorem dX11_sumOf_12 : decode cX11_sumOf 12 = .ok (.aload_n 0, 1) := by decide +kernel
theorem dX11_sumOf_13 : decode cX11_sumOf 13 = .ok (.getfield 7, 3) := by decide +kernel
theorem dX11_sumOf_16 : decode cX11_sumOf 16 = .ok (.iload_n 1, 1) := by decide +kernel
theorem dX11_sumOf_17 : decode cX11_sumOf 17 = .ok (.iload 4, 2) := by decide +kernel
theorem dX11_sumOf_19 : decode cX11_sumOf 19 = .ok (.iadd, 1) := by decide +kernel
theorem dX11_sumOf_20 : decode cX11_sumOf 20 = .ok (.iaload, 1) := by decide +kernel
theorem dX11_sumOf_21 : decode cX11_sumOf 21 = .ok (.iadd, 1) := by decide +kernel
theorem dX11_sumOf_22 : decode cX11_sumOf 22 = .ok (.istore_n 3, 1) := by decide +kernel
theorem dX11_sumOf_23 : decode cX11_sumOf 23 = .ok (.iinc 4 1, 3) := by decide +kernel
theorem dX11_sumOf_26 : decode cX11_sumOf 26 = .ok (.goto (-21), 3) := by decide +kernel
theorem dX11_sumOf_29 : decode cX11_sumOf 29 = .ok (.iload_n 3, 1) := by decide +kernel
theorem dX11_sumOf_30 : decode cX11_sumOf 30 = .ok (.ireturn, 1) := by decide +kernel
def bX11_sumOf_5 (k5 : Nat → Int32 → Int32 → Int32 → Int32 → gx_H → Option (Int32 × gx_H)) (v0 : Nat) (v1 : Int32) (v2 : Int32) (v3 : Int32) (v4 : Int32) (h : gx_H) : Option (Int32 × gx_H) :=
  if v2 ≤ v4 then
    some (v3, h)
  else
    (gx_fR h v0 9 0).bind fun a1 =>
    (gx_aI 0 h a1 (v1 + v4)).bind fun x2 =>
    k5 v0 v1 v2 (v3 + x2) (v4 + (1 : Int32)) h
def fX11_sumOf_5 : Nat → Nat → Int32 → Int32 → Int32 → Int32 → gx_H → Option (Int32 × gx_H)
  | 0 => fun _ _ _ _ _ _ => none
  | n + 1 => bX11_sumOf_5 (fX11_sumOf_5 n)
def fX11_sumOf (v0 : Nat) (v1 : Int32) (v2 : Int32) (h : gx_H) : Option (Int32 × gx_H) :=
  (gx_isO h v0 9).bind fun _ =>
  fX11_sumOf_5 gx_N v0 v1 v2 (0 : Int32) (0 : Int32) h
set_option maxRecDepth 100000 in
set_option maxHeartbeats 4000000 in
theorem gbX11_sumOf_5 {E : gx_Env} {d : Nat}  (k5 : Nat → Int32 → Int32 → Int32 → Int32 → gx_H → Option (Int32 × gx_H)) (hk5 : ∀ (v0 : Nat) (v1 : Int32) (v2 : Int32) (v3 : Int32) (v4 : Int32) (h : gx_H), gx_G E RX11 cX11_sumOf 5 (some .int) false d 0 0 5 [some (.ref v0), some (.int v1), some (.int v2), some (.int v3), some (.int v4)] [] h (fun x : Int32 => some (.int x)) (k5 v0 v1 v2 v3 v4 h))  : ∀ (v0 : Nat) (v1 : Int32) (v2 : Int32) (v3 : Int32) (v4 : Int32) (h : gx_H), gx_G E RX11 cX11_sumOf 5 (some .int) false d 0 0 5 [some (.ref v0), some (.int v1), some (.int v2), some (.int v3), some (.int v4)] [] h (fun x : Int32 => some (.int x)) (bX11_sumOf_5 k5 v0 v1 v2 v3 v4 h) := by
  intro v0 v1 v2 v3 v4 h
  unfold bX11_sumOf_5
  refine gx_iload dX11_sumOf_5 rfl ?_
  refine gx_iload_n 2 dX11_sumOf_7 rfl rfl ?_
  refine gx_icmp_ge 29 dX11_sumOf_8 (by decide) (fun _ => ?_) (fun _ => ?_)
  · refine gx_iload_n 3 dX11_sumOf_29 rfl rfl ?_
    exact gx_iret dX11_sumOf_30 rfl
  · refine gx_iload_n 3 dX11_sumOf_11 rfl rfl ?_
    refine gx_aload_n 0 dX11_sumOf_12 rfl rfl ?_
    refine gx_getR kf_RX11_7 dX11_sumOf_13 (fun a1 => ?_)
    refine gx_iload_n 1 dX11_sumOf_16 rfl rfl ?_
    refine gx_iload dX11_sumOf_17 rfl ?_
    refine gx_iadd dX11_sumOf_19 ?_
    refine gx_iald dX11_sumOf_20 (fun x2 => ?_)
    refine gx_iadd dX11_sumOf_21 ?_
    refine gx_istore_n 3 [some (.ref v0), some (.int v1), some (.int v2), some (.int (v3 + x2)), some (.int v4)] dX11_sumOf_22 rfl (by decide) rfl ?_
    refine gx_iinc (1 : Int32) [some (.ref v0), some (.int v1), some (.int v2), some (.int (v3 + x2)), some (.int (v4 + (1 : Int32)))] dX11_sumOf_23 rfl (by decide) (by decide) rfl ?_
    refine gx_goto 5 dX11_sumOf_26 (by decide) ?_
    exact gx_sub (hk5 v0 v1 v2 (v3 + x2) (v4 + (1 : Int32)) h) (And.intro rfl (And.intro rfl (And.intro rfl (And.intro rfl (And.intro rfl True.intro)))))
set_option maxRecDepth 100000 in
set_option maxHeartbeats 4000000 in
theorem gX11_sumOf_5 {E : gx_Env} {d : Nat}  : ∀ (n : Nat) (v0 : Nat) (v1 : Int32) (v2 : Int32) (v3 : Int32) (v4 : Int32) (h : gx_H), gx_G E RX11 cX11_sumOf 5 (some .int) false d 0 0 5 [some (.ref v0), some (.int v1), some (.int v2), some (.int v3), some (.int v4)] [] h (fun x : Int32 => some (.int x)) (fX11_sumOf_5 n v0 v1 v2 v3 v4 h) := by
  intro n
  induction n with
  | zero => intro v0 v1 v2 v3 v4 h; exact gx_none
  | succ n ih => exact gbX11_sumOf_5  (fX11_sumOf_5  n) ih
set_option maxRecDepth 100000 in
set_option maxHeartbeats 4000000 in
theorem geX11_sumOf {E : gx_Env} {d : Nat} (v0 : Nat) (v1 : Int32) (v2 : Int32) (h : gx_H) : gx_G E RX11 cX11_sumOf 5 (some .int) false d 0 0 0 [some (.ref v0), some (.int v1), some (.int v2), none, none] [] h (fun x : Int32 => some (.int x)) (fX11_sumOf v0 v1 v2 h) := by
  unfold fX11_sumOf
  refine gx_bind fun _ _ => ?_
  refine gx_iconst (0 : Int32) dX11_sumOf_0 (by decide) ?_
  refine gx_istore_n 3 [some (.ref v0), some (.int v1), some (.int v2), some (.int (0 : Int32)), none] dX11_sumOf_1 rfl (by decide) rfl ?_
  refine gx_iconst (0 : Int32) dX11_sumOf_2 (by decide) ?_
  refine gx_istore [some (.ref v0), some (.int v1), some (.int v2), some (.int (0 : Int32)), some (.int (0 : Int32))] dX11_sumOf_3 (by decide) rfl ?_
  exact gx_sub (gX11_sumOf_5 gx_N v0 v1 v2 (0 : Int32) (0 : Int32) h) (And.intro rfl (And.intro rfl (And.intro rfl (And.intro rfl (And.intro rfl True.intro)))))
theorem okX11_sumOf {E : gx_Env} (d : Nat) {v0 : Nat} {v1 : Int32} {v2 : Int32} {h : gx_H} {r : Int32} {h1 : gx_H} (q : fX11_sumOf v0 v1 v2 h = some (r, h1)) : gx_M E yX11_sumOf cX11_sumOf 5 (some .int) d 0 0 [.ref v0, .int v1, .int v2] h ((fun x : Int32 => some (.int x)) r) h1 := gx_meth (y := yX11_sumOf) (cc := cX11_sumOf) (nL := 5) (em := (fun x : Int32 => some (.int x))) (ini := false) [.ref v0, .int v1, .int v2] (by decide) (by simp [gx_sl]) (fun q => by cases q) (geX11_sumOf v0 v1 v2 h) q
theorem dX11_countOf_0 : decode cX11_countOf 0 = .ok (.iload_n 1, 1) := by decide +kernel
theorem dX11_countOf_1 : decode cX11_countOf 1 = .ok (.tableswitch 139 0 9 #[55, 62, 69, 76, 83, 89, 102, 115, 123, 131], 55) := by decide +kernel
theorem dX11_countOf_56 : decode cX11_countOf 56 = .ok (.aload_n 0, 1) := by decide +kernel
theorem dX11_countOf_57 : decode cX11_countOf 57 = .ok (.getfield 7, 3) := by decide +kernel
theorem dX11_countOf_60 : decode cX11_countOf 60 = .ok (.iconst 0, 1) := by decide +kernel
theorem dX11_countOf_61 : decode cX11_countOf 61 = .ok (.iaload, 1) := by decide +kernel
theorem dX11_countOf_62 : decode cX11_countOf 62 = .ok (.ireturn, 1) := by decide +kernel
theorem dX11_countOf_63 : decode cX11_countOf 63 = .ok (.aload_n 0, 1) := by decide +kernel
theorem dX11_countOf_64 : decode cX11_countOf 64 = .ok (.getfield 7, 3) := by decide +kernel
theorem dX11_countOf_67 : decode cX11_countOf 67 = .ok (.iconst 1, 1) := by decide +kernel
theorem dX11_countOf_68 : decode cX11_countOf 68 = .ok (.iaload, 1) := by decide +kernel
theorem dX11_countOf_69 : decode cX11_countOf 69 = .ok (.ireturn, 1) := by decide +kernel
theorem dX11_countOf_70 : decode cX11_countOf 70 = .ok (.aload_n 0, 1) := by decide +kernel
theorem dX11_countOf_71 : decode cX11_countOf 71 = .ok (.getfield 7, 3) := by decide +kernel
theorem dX11_countOf_74 : decode cX11_countOf 74 = .ok (.iconst 2, 1) := by decide +kernel
theorem dX11_countOf_75 : decode cX11_countOf 75 = .ok (.iaload, 1) := by decide +kernel
theorem dX11_countOf_76 : decode cX11_countOf 76 = .ok (.ireturn, 1) := by decide +kernel
theorem dX11_countOf_77 : decode cX11_countOf 77 = .ok (.aload_n 0, 1) := by decide +kernel
theorem dX11_countOf_78 : decode cX11_countOf 78 = .ok (.getfield 7, 3) := by decide +kernel
theorem dX11_countOf_81 : decode cX11_countOf 81 = .ok (.iconst 3, 1) := by decide +kernel
theorem dX11_countOf_82 : decode cX11_countOf 82 = .ok (.iaload, 1) := by decide +kernel
theorem dX11_countOf_83 : decode cX11_countOf 83 = .ok (.ireturn, 1) := by decide +kernel
theorem dX11_countOf_84 : decode cX11_countOf 84 = .ok (.aload_n 0, 1) := by decide +kernel
theorem dX11_countOf_85 : decode cX11_countOf 85 = .ok (.iconst 0, 1) := by decide +kernel
theorem dX11_countOf_86 : decode cX11_countOf 86 = .ok (.invokevirtual 194, 3) := by decide +kernel
theorem dX11_countOf_89 : decode cX11_countOf 89 = .ok (.ireturn, 1) := by decide +kernel
theorem dX11_countOf_90 : decode cX11_countOf 90 = .ok (.aload_n 0, 1) := by decide +kernel
theorem dX11_countOf_91 : decode cX11_countOf 91 = .ok (.bipush 36, 2) := by decide +kernel
theorem dX11_countOf_93 : decode cX11_countOf 93 = .ok (.aload_n 0, 1) := by decide +kernel
theorem dX11_countOf_94 : decode cX11_countOf 94 = .ok (.getfield 7, 3) := by decide +kernel
theorem dX11_countOf_97 : decode cX11_countOf 97 = .ok (.iconst 3, 1) := by decide +kernel
theorem dX11_countOf_98 : decode cX11_countOf 98 = .ok (.iaload, 1) := by decide +kernel
theorem dX11_countOf_99 : decode cX11_countOf 99 = .ok (.invokevirtual 259, 3) := by decide +kernel
theorem dX11_countOf_102 : decode cX11_countOf 102 = .ok (.ireturn, 1) := by decide +kernel
theorem dX11_countOf_103 : decode cX11_countOf 103 = .ok (.aload_n 0, 1) := by decide +kernel
theorem dX11_countOf_104 : decode cX11_countOf 104 = .ok (.bipush 22, 2) := by decide +kernel
theorem dX11_countOf_106 : decode cX11_countOf 106 = .ok (.aload_n 0, 1) := by decide +kernel
theorem dX11_countOf_107 : decode cX11_countOf 107 = .ok (.getfield 7, 3) := by decide +kernel
theorem dX11_countOf_110 : decode cX11_countOf 110 = .ok (.iconst 2, 1) := by decide +kernel
theorem dX11_countOf_111 : decode cX11_countOf 111 = .ok (.iaload, 1) := by decide +kernel
theorem dX11_countOf_112 : decode cX11_countOf 112 = .ok (.invokevirtual 259, 3) := by decide +kernel
theorem dX11_countOf_115 : decode cX11_countOf 115 = .ok (.ireturn, 1) := by decide +kernel
theorem dX11_countOf_116 : decode cX11_countOf 116 = .ok (.aload_n 0, 1) := by decide +kernel
theorem dX11_countOf_117 : decode cX11_countOf 117 = .ok (.getfield 7, 3) := by decide +kernel
theorem dX11_countOf_120 : decode cX11_countOf 120 = .ok (.bipush 40, 2) := by decide +kernel
theorem dX11_countOf_122 : decode cX11_countOf 122 = .ok (.iaload, 1) := by decide +kernel
theorem dX11_countOf_123 : decode cX11_countOf 123 = .ok (.ireturn, 1) := by decide +kernel
theorem dX11_countOf_124 : decode cX11_countOf 124 = .ok (.aload_n 0, 1) := by decide +kernel
theorem dX11_countOf_125 : decode cX11_countOf 125 = .ok (.getfield 7, 3) := by decide +kernel
theorem dX11_countOf_128 : decode cX11_countOf 128 = .ok (.bipush 65, 2) := by decide +kernel
theorem dX11_countOf_130 : decode cX11_countOf 130 = .ok (.iaload, 1) := by decide +kernel
theorem dX11_countOf_131 : decode cX11_countOf 131 = .ok (.ireturn, 1) := by decide +kernel
theorem dX11_countOf_132 : decode cX11_countOf 132 = .ok (.aload_n 0, 1) := by decide +kernel
theorem dX11_countOf_133 : decode cX11_countOf 133 = .ok (.getfield 7, 3) := by decide +kernel
theorem dX11_countOf_136 : decode cX11_countOf 136 = .ok (.bipush 90, 2) := by decide +kernel
theorem dX11_countOf_138 : decode cX11_countOf 138 = .ok (.iaload, 1) := by decide +kernel
theorem dX11_countOf_139 : decode cX11_countOf 139 = .ok (.ireturn, 1) := by decide +kernel
theorem dX11_countOf_140 : decode cX11_countOf 140 = .ok (.aload_n 0, 1) := by decide +kernel
theorem dX11_countOf_141 : decode cX11_countOf 141 = .ok (.getfield 111, 3) := by decide +kernel
theorem dX11_countOf_144 : decode cX11_countOf 144 = .ok (.ireturn, 1) := by decide +kernel
def fX11_countOf (v0 : Nat) (v1 : Int32) (h : gx_H) : Option (Int32 × gx_H) :=
  (gx_isO h v0 9).bind fun _ =>
  if v1 = (0 : Int32) then
    (gx_fR h v0 9 0).bind fun a1 =>
    (gx_aI 0 h a1 (0 : Int32)).bind fun x2 =>
    some (x2, h)
  else
  if v1 = (1 : Int32) then
    (gx_fR h v0 9 0).bind fun a3 =>
    (gx_aI 0 h a3 (1 : Int32)).bind fun x4 =>
    some (x4, h)
  else
  if v1 = (2 : Int32) then
    (gx_fR h v0 9 0).bind fun a5 =>
    (gx_aI 0 h a5 (2 : Int32)).bind fun x6 =>
    some (x6, h)
  else
  if v1 = (3 : Int32) then
    (gx_fR h v0 9 0).bind fun a7 =>
    (gx_aI 0 h a7 (3 : Int32)).bind fun x8 =>
    some (x8, h)
  else
  if v1 = (4 : Int32) then
    gx_bd (fX11_homes v0 (0 : Int32) h) fun x10 h9 =>
    some (x10, h9)
  else
  if v1 = (5 : Int32) then
    (gx_fR h v0 9 0).bind fun a11 =>
    (gx_aI 0 h a11 (3 : Int32)).bind fun x12 =>
    gx_bd (fX11_sumOf v0 (36 : Int32) x12 h) fun x14 h13 =>
    some (x14, h13)
  else
  if v1 = (6 : Int32) then
    (gx_fR h v0 9 0).bind fun a15 =>
    (gx_aI 0 h a15 (2 : Int32)).bind fun x16 =>
    gx_bd (fX11_sumOf v0 (22 : Int32) x16 h) fun x18 h17 =>
    some (x18, h17)
  else
  if v1 = (7 : Int32) then
    (gx_fR h v0 9 0).bind fun a19 =>
    (gx_aI 0 h a19 (40 : Int32)).bind fun x20 =>
    some (x20, h)
  else
  if v1 = (8 : Int32) then
    (gx_fR h v0 9 0).bind fun a21 =>
    (gx_aI 0 h a21 (65 : Int32)).bind fun x22 =>
    some (x22, h)
  else
  if v1 = (9 : Int32) then
    (gx_fR h v0 9 0).bind fun a23 =>
    (gx_aI 0 h a23 (90 : Int32)).bind fun x24 =>
    some (x24, h)
  else
  (gx_fI h v0 9 3).bind fun x25 =>
  some (x25, h)
set_option maxRecDepth 100000 in
set_option maxHeartbeats 4000000 in
theorem geX11_countOf {E : gx_Env} {d : Nat} (v0 : Nat) (v1 : Int32) (h : gx_H) : gx_G E RX11 cX11_countOf 2 (some .int) false (d + 2) 0 0 0 [some (.ref v0), some (.int v1)] [] h (fun x : Int32 => some (.int x)) (fX11_countOf v0 v1 h) := by
  unfold fX11_countOf
  refine gx_bind fun _ _ => ?_
  refine gx_iload_n 1 dX11_countOf_0 rfl rfl ?_
  refine gx_ite (fun hx => ?_) (fun hx0 => ?_)
  · refine gx_tabIn (off := 55) 56 dX11_countOf_1 (by rw [hx]; decide) (by rw [hx]; decide) (by rw [hx]; decide) (by decide) ?_
    refine gx_aload_n 0 dX11_countOf_56 rfl rfl ?_
    refine gx_getR kf_RX11_7 dX11_countOf_57 (fun a1 => ?_)
    refine gx_iconst (0 : Int32) dX11_countOf_60 (by decide) ?_
    refine gx_iald dX11_countOf_61 (fun x2 => ?_)
    exact gx_iret dX11_countOf_62 rfl
  refine gx_ite (fun hx => ?_) (fun hx1 => ?_)
  · refine gx_tabIn (off := 62) 63 dX11_countOf_1 (by rw [hx]; decide) (by rw [hx]; decide) (by rw [hx]; decide) (by decide) ?_
    refine gx_aload_n 0 dX11_countOf_63 rfl rfl ?_
    refine gx_getR kf_RX11_7 dX11_countOf_64 (fun a3 => ?_)
    refine gx_iconst (1 : Int32) dX11_countOf_67 (by decide) ?_
    refine gx_iald dX11_countOf_68 (fun x4 => ?_)
    exact gx_iret dX11_countOf_69 rfl
  refine gx_ite (fun hx => ?_) (fun hx2 => ?_)
  · refine gx_tabIn (off := 69) 70 dX11_countOf_1 (by rw [hx]; decide) (by rw [hx]; decide) (by rw [hx]; decide) (by decide) ?_
    refine gx_aload_n 0 dX11_countOf_70 rfl rfl ?_
    refine gx_getR kf_RX11_7 dX11_countOf_71 (fun a5 => ?_)
    refine gx_iconst (2 : Int32) dX11_countOf_74 (by decide) ?_
    refine gx_iald dX11_countOf_75 (fun x6 => ?_)
    exact gx_iret dX11_countOf_76 rfl
  refine gx_ite (fun hx => ?_) (fun hx3 => ?_)
  · refine gx_tabIn (off := 76) 77 dX11_countOf_1 (by rw [hx]; decide) (by rw [hx]; decide) (by rw [hx]; decide) (by decide) ?_
    refine gx_aload_n 0 dX11_countOf_77 rfl rfl ?_
    refine gx_getR kf_RX11_7 dX11_countOf_78 (fun a7 => ?_)
    refine gx_iconst (3 : Int32) dX11_countOf_81 (by decide) ?_
    refine gx_iald dX11_countOf_82 (fun x8 => ?_)
    exact gx_iret dX11_countOf_83 rfl
  refine gx_ite (fun hx => ?_) (fun hx4 => ?_)
  · refine gx_tabIn (off := 83) 84 dX11_countOf_1 (by rw [hx]; decide) (by rw [hx]; decide) (by rw [hx]; decide) (by decide) ?_
    refine gx_aload_n 0 dX11_countOf_84 rfl rfl ?_
    refine gx_iconst (0 : Int32) dX11_countOf_85 (by decide) ?_
    refine gx_callV (ci := 9) (bc := 0) (bs := 0) (mc := 0) (ms := 0) (em' := (fun x : Int32 => some (.int x))) [.int (0 : Int32)] kc_RX11_194 rfl dX11_countOf_86 rfl rfl (gx_w8 rfl) (fun x q => (gx_isO_of (by unfold fX11_homes at q; exact q)).2) (fun _ _ q => okX11_homes d q) (fun x10 h9 => ?_)
    exact gx_iret dX11_countOf_89 rfl
  refine gx_ite (fun hx => ?_) (fun hx5 => ?_)
  · refine gx_tabIn (off := 89) 90 dX11_countOf_1 (by rw [hx]; decide) (by rw [hx]; decide) (by rw [hx]; decide) (by decide) ?_
    refine gx_aload_n 0 dX11_countOf_90 rfl rfl ?_
    refine gx_bipush (36 : Int32) dX11_countOf_91 (by decide) ?_
    refine gx_aload_n 0 dX11_countOf_93 rfl rfl ?_
    refine gx_getR kf_RX11_7 dX11_countOf_94 (fun a11 => ?_)
    refine gx_iconst (3 : Int32) dX11_countOf_97 (by decide) ?_
    refine gx_iald dX11_countOf_98 (fun x12 => ?_)
    refine gx_callV (ci := 9) (bc := 0) (bs := 0) (mc := 0) (ms := 0) (em' := (fun x : Int32 => some (.int x))) [.int (36 : Int32), .int x12] kc_RX11_259 rfl dX11_countOf_99 rfl rfl (gx_w8 rfl) (fun x q => (gx_isO_of (by unfold fX11_sumOf at q; exact q)).2) (fun _ _ q => okX11_sumOf (d + 1) q) (fun x14 h13 => ?_)
    exact gx_iret dX11_countOf_102 rfl
  refine gx_ite (fun hx => ?_) (fun hx6 => ?_)
  · refine gx_tabIn (off := 102) 103 dX11_countOf_1 (by rw [hx]; decide) (by rw [hx]; decide) (by rw [hx]; decide) (by decide) ?_
    refine gx_aload_n 0 dX11_countOf_103 rfl rfl ?_
    refine gx_bipush (22 : Int32) dX11_countOf_104 (by decide) ?_
    refine gx_aload_n 0 dX11_countOf_106 rfl rfl ?_
    refine gx_getR kf_RX11_7 dX11_countOf_107 (fun a15 => ?_)
    refine gx_iconst (2 : Int32) dX11_countOf_110 (by decide) ?_
    refine gx_iald dX11_countOf_111 (fun x16 => ?_)
    refine gx_callV (ci := 9) (bc := 0) (bs := 0) (mc := 0) (ms := 0) (em' := (fun x : Int32 => some (.int x))) [.int (22 : Int32), .int x16] kc_RX11_259 rfl dX11_countOf_112 rfl rfl (gx_w8 rfl) (fun x q => (gx_isO_of (by unfold fX11_sumOf at q; exact q)).2) (fun _ _ q => okX11_sumOf (d + 1) q) (fun x18 h17 => ?_)
    exact gx_iret dX11_countOf_115 rfl
  refine gx_ite (fun hx => ?_) (fun hx7 => ?_)
  · refine gx_tabIn (off := 115) 116 dX11_countOf_1 (by rw [hx]; decide) (by rw [hx]; decide) (by rw [hx]; decide) (by decide) ?_
    refine gx_aload_n 0 dX11_countOf_116 rfl rfl ?_
    refine gx_getR kf_RX11_7 dX11_countOf_117 (fun a19 => ?_)
    refine gx_bipush (40 : Int32) dX11_countOf_120 (by decide) ?_
    refine gx_iald dX11_countOf_122 (fun x20 => ?_)
    exact gx_iret dX11_countOf_123 rfl
  refine gx_ite (fun hx => ?_) (fun hx8 => ?_)
  · refine gx_tabIn (off := 123) 124 dX11_countOf_1 (by rw [hx]; decide) (by rw [hx]; decide) (by rw [hx]; decide) (by decide) ?_
    refine gx_aload_n 0 dX11_countOf_124 rfl rfl ?_
    refine gx_getR kf_RX11_7 dX11_countOf_125 (fun a21 => ?_)
    refine gx_bipush (65 : Int32) dX11_countOf_128 (by decide) ?_
    refine gx_iald dX11_countOf_130 (fun x22 => ?_)
    exact gx_iret dX11_countOf_131 rfl
  refine gx_ite (fun hx => ?_) (fun hx9 => ?_)
  · refine gx_tabIn (off := 131) 132 dX11_countOf_1 (by rw [hx]; decide) (by rw [hx]; decide) (by rw [hx]; decide) (by decide) ?_
    refine gx_aload_n 0 dX11_countOf_132 rfl rfl ?_
    refine gx_getR kf_RX11_7 dX11_countOf_133 (fun a23 => ?_)
    refine gx_bipush (90 : Int32) dX11_countOf_136 (by decide) ?_
    refine gx_iald dX11_countOf_138 (fun x24 => ?_)
    exact gx_iret dX11_countOf_139 rfl
  refine gx_tabOut 140 dX11_countOf_1 (by have q0 := lv_neT hx0 (a := 0) (by decide); have q1 := lv_neT hx1 (a := 1) (by decide); have q2 := lv_neT hx2 (a := 2) (by decide); have q3 := lv_neT hx3 (a := 3) (by decide); have q4 := lv_neT hx4 (a := 4) (by decide); have q5 := lv_neT hx5 (a := 5) (by decide); have q6 := lv_neT hx6 (a := 6) (by decide); have q7 := lv_neT hx7 (a := 7) (by decide); have q8 := lv_neT hx8 (a := 8) (by decide); have q9 := lv_neT hx9 (a := 9) (by decide); omega) (by decide) ?_
  refine gx_aload_n 0 dX11_countOf_140 rfl rfl ?_
  refine gx_getI kf_RX11_111 dX11_countOf_141 (fun x25 => ?_)
  exact gx_iret dX11_countOf_144 rfl
theorem okX11_countOf {E : gx_Env} (d : Nat) {v0 : Nat} {v1 : Int32} {h : gx_H} {r : Int32} {h1 : gx_H} (q : fX11_countOf v0 v1 h = some (r, h1)) : gx_M E yX11_countOf cX11_countOf 2 (some .int) (d + 2) 0 0 [.ref v0, .int v1] h ((fun x : Int32 => some (.int x)) r) h1 := gx_meth (y := yX11_countOf) (cc := cX11_countOf) (nL := 2) (em := (fun x : Int32 => some (.int x))) (ini := false) [.ref v0, .int v1] (by decide) (by simp [gx_sl]) (fun q => by cases q) (geX11_countOf v0 v1 h) q
theorem dX11_count_0 : decode cX11_count 0 = .ok (.iload_n 1, 1) := by decide +kernel
theorem dX11_count_1 : decode cX11_count 1 = .ok (.i2l, 1) := by decide +kernel
theorem dX11_count_2 : decode cX11_count 2 = .ok (.lconst 0, 1) := by decide +kernel
theorem dX11_count_3 : decode cX11_count 3 = .ok (.ldc2_w 73, 3) := by decide +kernel
theorem dX11_count_6 : decode cX11_count 6 = .ok (.invokestatic 39, 3) := by decide +kernel
theorem dX11_count_9 : decode cX11_count 9 = .ok (.ifCond .eq 11, 3) := by decide +kernel
theorem dX11_count_12 : decode cX11_count 12 = .ok (.aload_n 0, 1) := by decide +kernel
theorem dX11_count_13 : decode cX11_count 13 = .ok (.iload_n 1, 1) := by decide +kernel
theorem dX11_count_14 : decode cX11_count 14 = .ok (.invokevirtual 262, 3) := by decide +kernel
theorem dX11_count_17 : decode cX11_count 17 = .ok (.goto 9, 3) := by decide +kernel
theorem dX11_count_20 : decode cX11_count 20 = .ok (.aload_n 0, 1) := by decide +kernel
theorem dX11_count_21 : decode cX11_count 21 = .ok (.bipush (-2), 2) := by decide +kernel
theorem dX11_count_23 : decode cX11_count 23 = .ok (.invokevirtual 81, 3) := by decide +kernel
theorem dX11_count_26 : decode cX11_count 26 = .ok (.ireturn, 1) := by decide +kernel
def fX11_count_26 (s0 : Int32) (h : gx_H) : Option (Int32 × gx_H) :=
  some (s0, h)
def fX11_count (v0 : Nat) (v1 : Int32) (h : gx_H) : Option (Int32 × gx_H) :=
  (gx_isO h v0 9).bind fun _ =>
  gx_bd (fX11_in ((v1).toInt64) (0 : Int64) (10 : Int64) h) fun x2 h1 =>
  if x2 = 0 then
    gx_bd (fX11_bad v0 (-2 : Int32) h1) fun x4 h3 =>
    fX11_count_26 x4 h3
  else
    gx_bd (fX11_countOf v0 v1 h1) fun x6 h5 =>
    fX11_count_26 x6 h5
set_option maxRecDepth 100000 in
set_option maxHeartbeats 4000000 in
theorem gX11_count_26 {E : gx_Env} {d : Nat}  : ∀ (s0 : Int32) (h : gx_H), gx_G E RX11 cX11_count 2 (some .int) false (d + 3) 0 0 26 [none, none] [.int s0] h (fun x : Int32 => some (.int x)) (fX11_count_26 s0 h) := by
  intro s0 h
  unfold fX11_count_26
  exact gx_iret dX11_count_26 rfl
set_option maxRecDepth 100000 in
set_option maxHeartbeats 4000000 in
theorem geX11_count {E : gx_Env} {d : Nat} (v0 : Nat) (v1 : Int32) (h : gx_H) : gx_G E RX11 cX11_count 2 (some .int) false (d + 3) 0 0 0 [some (.ref v0), some (.int v1)] [] h (fun x : Int32 => some (.int x)) (fX11_count v0 v1 h) := by
  unfold fX11_count
  refine gx_bind fun _ _ => ?_
  refine gx_iload_n 1 dX11_count_0 rfl rfl ?_
  refine gx_i2l dX11_count_1 ?_
  refine gx_lconst (0 : Int64) dX11_count_2 (by decide) ?_
  refine gx_ldc2 kk_RX11_73 dX11_count_3 ?_
  refine gx_callS (bc := 0) (bs := 0) (mc := 0) (ms := 0) (em' := (fun x : Int32 => some (.int x))) [.long ((v1).toInt64), .long (0 : Int64), .long (10 : Int64)] kc_RX11_39 dX11_count_6 rfl rfl (gx_w8 rfl) (fun _ _ q => okX11_in (d + 2) q) (fun x2 h1 => ?_)
  refine gx_if_eq 20 dX11_count_9 (by decide) (fun _ => ?_) (fun _ => ?_)
  · refine gx_aload_n 0 dX11_count_20 rfl rfl ?_
    refine gx_bipush (-2 : Int32) dX11_count_21 (by decide) ?_
    refine gx_callV (ci := 9) (bc := 0) (bs := 0) (mc := 0) (ms := 0) (em' := (fun x : Int32 => some (.int x))) [.int (-2 : Int32)] kc_RX11_81 rfl dX11_count_23 rfl rfl (gx_w8 rfl) (fun x q => (gx_isO_of (by unfold fX11_bad at q; exact q)).2) (fun _ _ q => okX11_bad (d + 2) q) (fun x4 h3 => ?_)
    exact gx_sub (gX11_count_26 x4 h3) True.intro
  · refine gx_aload_n 0 dX11_count_12 rfl rfl ?_
    refine gx_iload_n 1 dX11_count_13 rfl rfl ?_
    refine gx_callV (ci := 9) (bc := 0) (bs := 0) (mc := 0) (ms := 0) (em' := (fun x : Int32 => some (.int x))) [.int v1] kc_RX11_262 rfl dX11_count_14 rfl rfl (gx_w8 rfl) (fun x q => (gx_isO_of (by unfold fX11_countOf at q; exact q)).2) (fun _ _ q => okX11_countOf d q) (fun x6 h5 => ?_)
    refine gx_goto 26 dX11_count_17 (by decide) ?_
    exact gx_sub (gX11_count_26 x6 h5) True.intro
theorem okX11_count {E : gx_Env} (d : Nat) {v0 : Nat} {v1 : Int32} {h : gx_H} {r : Int32} {h1 : gx_H} (q : fX11_count v0 v1 h = some (r, h1)) : gx_M E yX11_count cX11_count 2 (some .int) (d + 3) 0 0 [.ref v0, .int v1] h ((fun x : Int32 => some (.int x)) r) h1 := gx_meth (y := yX11_count) (cc := cX11_count) (nL := 2) (em := (fun x : Int32 => some (.int x))) (ini := false) [.ref v0, .int v1] (by decide) (by simp [gx_sl]) (fun q => by cases q) (geX11_count v0 v1 h) q
theorem dX11_mix_0 : decode cX11_mix 0 = .ok (.aload_n 0, 1) := by decide +kernel
theorem dX11_mix_1 : decode cX11_mix 1 = .ok (.ldc2_w 265, 3) := by decide +kernel
theorem dX11_mix_4 : decode cX11_mix 4 = .ok (.aload_n 0, 1) := by decide +kernel
theorem dX11_mix_5 : decode cX11_mix 5 = .ok (.getfield 267, 3) := by decide +kernel
theorem dX11_mix_8 : decode cX11_mix 8 = .ok (.lmul, 1) := by decide +kernel
theorem dX11_mix_9 : decode cX11_mix 9 = .ok (.lload_n 1, 1) := by decide +kernel
theorem dX11_mix_10 : decode cX11_mix 10 = .ok (.ladd, 1) := by decide +kernel
theorem dX11_mix_11 : decode cX11_mix 11 = .ok (.putfield 267, 3) := by decide +kernel
theorem dX11_mix_14 : decode cX11_mix 14 = .ok (.return_, 1) := by decide +kernel
def fX11_mix (v0 : Nat) (v1 : Int64) (h : gx_H) : Option (Unit × gx_H) :=
  (gx_isO h v0 9).bind fun _ =>
  (gx_fJ h v0 9 13).bind fun y1 =>
  (gx_pF h v0 9 13 (.long (((31 : Int64) * y1) + v1))).bind fun h2 =>
  some ((), h2)
set_option maxRecDepth 100000 in
set_option maxHeartbeats 4000000 in
theorem geX11_mix {E : gx_Env} {d : Nat} (v0 : Nat) (v1 : Int64) (h : gx_H) : gx_G E RX11 cX11_mix 3 none false d 0 0 0 [some (.ref v0), some (.long v1), none] [] h (fun _ : Unit => none) (fX11_mix v0 v1 h) := by
  unfold fX11_mix
  refine gx_bind fun _ _ => ?_
  refine gx_aload_n 0 dX11_mix_0 rfl rfl ?_
  refine gx_ldc2 kk_RX11_265 dX11_mix_1 ?_
  refine gx_aload_n 0 dX11_mix_4 rfl rfl ?_
  refine gx_getJ kf_RX11_267 dX11_mix_5 (fun y1 => ?_)
  refine gx_lmul dX11_mix_8 ?_
  refine gx_lload_n 1 dX11_mix_9 rfl rfl ?_
  refine gx_ladd dX11_mix_10 ?_
  refine gx_putJ kp_RX11_267 (fun q => by cases q) dX11_mix_11 (fun h2 => ?_)
  exact gx_vret dX11_mix_14 rfl
theorem okX11_mix {E : gx_Env} (d : Nat) {v0 : Nat} {v1 : Int64} {h : gx_H} {r : Unit} {h1 : gx_H} (q : fX11_mix v0 v1 h = some (r, h1)) : gx_M E yX11_mix cX11_mix 3 none d 0 0 [.ref v0, .long v1] h ((fun _ : Unit => none) r) h1 := gx_meth (y := yX11_mix) (cc := cX11_mix) (nL := 3) (em := (fun _ : Unit => none)) (ini := false) [.ref v0, .long v1] (by decide) (by simp [gx_sl]) (fun q => by cases q) (geX11_mix v0 v1 h) q
theorem dX11_mixes_0 : decode cX11_mixes 0 = .ok (.iconst 0, 1) := by decide +kernel
theorem dX11_mixes_1 : decode cX11_mixes 1 = .ok (.istore_n 3, 1) := by decide +kernel
theorem dX11_mixes_2 : decode cX11_mixes 2 = .ok (.iload_n 3, 1) := by decide +kernel
theorem dX11_mixes_3 : decode cX11_mixes 3 = .ok (.iload_n 2, 1) := by decide +kernel
theorem dX11_mixes_4 : decode cX11_mixes 4 = .ok (.if_icmp .ge 22, 3) := by decide +kernel
theorem dX11_mixes_7 : decode cX11_mixes 7 = .ok (.aload_n 0, 1) := by decide +kernel
theorem dX11_mixes_8 : decode cX11_mixes 8 = .ok (.aload_n 0, 1) := by decide +kernel
theorem dX11_mixes_9 : decode cX11_mixes 9 = .ok (.getfield 7, 3) := by decide +kernel
theorem dX11_mixes_12 : decode cX11_mixes 12 = .ok (.iload_n 1, 1) := by decide +kernel
theorem dX11_mixes_13 : decode cX11_mixes 13 = .ok (.iload_n 3, 1) := by decide +kernel
theorem dX11_mixes_14 : decode cX11_mixes 14 = .ok (.iadd, 1) := by decide +kernel
theorem dX11_mixes_15 : decode cX11_mixes 15 = .ok (.iaload, 1) := by decide +kernel
theorem dX11_mixes_16 : decode cX11_mixes 16 = .ok (.i2l, 1) := by decide +kernel
theorem dX11_mixes_17 : decode cX11_mixes 17 = .ok (.invokevirtual 270, 3) := by decide +kernel
theorem dX11_mixes_20 : decode cX11_mixes 20 = .ok (.iinc 3 1, 3) := by decide +kernel
theorem dX11_mixes_23 : decode cX11_mixes 23 = .ok (.goto (-21), 3) := by decide +kernel
theorem dX11_mixes_26 : decode cX11_mixes 26 = .ok (.return_, 1) := by decide +kernel
def bX11_mixes_2 (k2 : Nat → Int32 → Int32 → Int32 → gx_H → Option (Unit × gx_H)) (v0 : Nat) (v1 : Int32) (v2 : Int32) (v3 : Int32) (h : gx_H) : Option (Unit × gx_H) :=
  if v2 ≤ v3 then
    some ((), h)
  else
    (gx_fR h v0 9 0).bind fun a1 =>
    (gx_aI 0 h a1 (v1 + v3)).bind fun x2 =>
    gx_bd (fX11_mix v0 ((x2).toInt64) h) fun u4 h3 =>
    k2 v0 v1 v2 (v3 + (1 : Int32)) h3
def fX11_mixes_2 : Nat → Nat → Int32 → Int32 → Int32 → gx_H → Option (Unit × gx_H)
  | 0 => fun _ _ _ _ _ => none
  | n + 1 => bX11_mixes_2 (fX11_mixes_2 n)
def fX11_mixes (v0 : Nat) (v1 : Int32) (v2 : Int32) (h : gx_H) : Option (Unit × gx_H) :=
  (gx_isO h v0 9).bind fun _ =>
  fX11_mixes_2 gx_N v0 v1 v2 (0 : Int32) h
set_option maxRecDepth 100000 in
set_option maxHeartbeats 4000000 in
theorem gbX11_mixes_2 {E : gx_Env} {d : Nat}  (k2 : Nat → Int32 → Int32 → Int32 → gx_H → Option (Unit × gx_H)) (hk2 : ∀ (v0 : Nat) (v1 : Int32) (v2 : Int32) (v3 : Int32) (h : gx_H), gx_G E RX11 cX11_mixes 4 none false (d + 1) 0 0 2 [some (.ref v0), some (.int v1), some (.int v2), some (.int v3)] [] h (fun _ : Unit => none) (k2 v0 v1 v2 v3 h))  : ∀ (v0 : Nat) (v1 : Int32) (v2 : Int32) (v3 : Int32) (h : gx_H), gx_G E RX11 cX11_mixes 4 none false (d + 1) 0 0 2 [some (.ref v0), some (.int v1), some (.int v2), some (.int v3)] [] h (fun _ : Unit => none) (bX11_mixes_2 k2 v0 v1 v2 v3 h) := by
  intro v0 v1 v2 v3 h
  unfold bX11_mixes_2
  refine gx_iload_n 3 dX11_mixes_2 rfl rfl ?_
  refine gx_iload_n 2 dX11_mixes_3 rfl rfl ?_
  refine gx_icmp_ge 26 dX11_mixes_4 (by decide) (fun _ => ?_) (fun _ => ?_)
  · exact gx_vret dX11_mixes_26 rfl
  · refine gx_aload_n 0 dX11_mixes_7 rfl rfl ?_
    refine gx_aload_n 0 dX11_mixes_8 rfl rfl ?_
    refine gx_getR kf_RX11_7 dX11_mixes_9 (fun a1 => ?_)
    refine gx_iload_n 1 dX11_mixes_12 rfl rfl ?_
    refine gx_iload_n 3 dX11_mixes_13 rfl rfl ?_
    refine gx_iadd dX11_mixes_14 ?_
    refine gx_iald dX11_mixes_15 (fun x2 => ?_)
    refine gx_i2l dX11_mixes_16 ?_
    refine gx_callV (ci := 9) (bc := 0) (bs := 0) (mc := 0) (ms := 0) (em' := (fun _ : Unit => none)) [.long ((x2).toInt64)] kc_RX11_270 rfl dX11_mixes_17 rfl rfl (gx_w8 rfl) (fun x q => (gx_isO_of (by unfold fX11_mix at q; exact q)).2) (fun _ _ q => okX11_mix d q) (fun u4 h3 => ?_)
    refine gx_iinc (1 : Int32) [some (.ref v0), some (.int v1), some (.int v2), some (.int (v3 + (1 : Int32)))] dX11_mixes_20 rfl (by decide) (by decide) rfl ?_
    refine gx_goto 2 dX11_mixes_23 (by decide) ?_
    exact gx_sub (hk2 v0 v1 v2 (v3 + (1 : Int32)) h3) (And.intro rfl (And.intro rfl (And.intro rfl (And.intro rfl True.intro))))
set_option maxRecDepth 100000 in
set_option maxHeartbeats 4000000 in
theorem gX11_mixes_2 {E : gx_Env} {d : Nat}  : ∀ (n : Nat) (v0 : Nat) (v1 : Int32) (v2 : Int32) (v3 : Int32) (h : gx_H), gx_G E RX11 cX11_mixes 4 none false (d + 1) 0 0 2 [some (.ref v0), some (.int v1), some (.int v2), some (.int v3)] [] h (fun _ : Unit => none) (fX11_mixes_2 n v0 v1 v2 v3 h) := by
  intro n
  induction n with
  | zero => intro v0 v1 v2 v3 h; exact gx_none
  | succ n ih => exact gbX11_mixes_2  (fX11_mixes_2  n) ih
set_option maxRecDepth 100000 in
set_option maxHeartbeats 4000000 in
theorem geX11_mixes {E : gx_Env} {d : Nat} (v0 : Nat) (v1 : Int32) (v2 : Int32) (h : gx_H) : gx_G E RX11 cX11_mixes 4 none false (d + 1) 0 0 0 [some (.ref v0), some (.int v1), some (.int v2), none] [] h (fun _ : Unit => none) (fX11_mixes v0 v1 v2 h) := by
  unfold fX11_mixes
  refine gx_bind fun _ _ => ?_
  refine gx_iconst (0 : Int32) dX11_mixes_0 (by decide) ?_
  refine gx_istore_n 3 [some (.ref v0), some (.int v1), some (.int v2), some (.int (0 : Int32))] dX11_mixes_1 rfl (by decide) rfl ?_
  exact gx_sub (gX11_mixes_2 gx_N v0 v1 v2 (0 : Int32) h) (And.intro rfl (And.intro rfl (And.intro rfl (And.intro rfl True.intro))))
theorem okX11_mixes {E : gx_Env} (d : Nat) {v0 : Nat} {v1 : Int32} {v2 : Int32} {h : gx_H} {r : Unit} {h1 : gx_H} (q : fX11_mixes v0 v1 v2 h = some (r, h1)) : gx_M E yX11_mixes cX11_mixes 4 none (d + 1) 0 0 [.ref v0, .int v1, .int v2] h ((fun _ : Unit => none) r) h1 := gx_meth (y := yX11_mixes) (cc := cX11_mixes) (nL := 4) (em := (fun _ : Unit => none)) (ini := false) [.ref v0, .int v1, .int v2] (by decide) (by simp [gx_sl]) (fun q => by cases q) (geX11_mixes v0 v1 v2 h) q
theorem dX11_digest_0 : decode cX11_digest 0 = .ok (.aload_n 0, 1) := by decide +kernel
theorem dX11_digest_1 : decode cX11_digest 1 = .ok (.ldc2_w 274, 3) := by decide +kernel
theorem dX11_digest_4 : decode cX11_digest 4 = .ok (.putfield 267, 3) := by decide +kernel
theorem dX11_digest_7 : decode cX11_digest 7 = .ok (.iconst 0, 1) := by decide +kernel
theorem dX11_digest_8 : decode cX11_digest 8 = .ok (.istore_n 1, 1) := by decide +kernel
theorem dX11_digest_9 : decode cX11_digest 9 = .ok (.iload_n 1, 1) := by decide +kernel
theorem dX11_digest_10 : decode cX11_digest 10 = .ok (.bipush 11, 2) := by decide +kernel
theorem dX11_digest_12 : decode cX11_digest 12 = .ok (.if_icmp .ge 19, 3) := by decide +kernel
theorem dX11_digest_15 : decode cX11_digest 15 = .ok (.aload_n 0, 1) := by decide +kernel
theorem dX11_digest_16 : decode cX11_digest 16 = .ok (.aload_n 0, 1) := by decide +kernel
theorem dX11_digest_17 : decode cX11_digest 17 = .ok (.iload_n 1, 1) := by decide +kernel
theorem dX11_digest_18 : decode cX11_digest 18 = .ok (.invokevirtual 262, 3) := by decide +kernel
theorem dX11_digest_21 : decode cX11_digest 21 = .ok (.i2l, 1) := by decide +kernel
theorem dX11_digest_22 : decode cX11_digest 22 = .ok (.invokevirtual 270, 3) := by decide +kernel
theorem dX11_digest_25 : decode cX11_digest 25 = .ok (.iinc 1 1, 3) := by decide +kernel
theorem dX11_digest_28 : decode cX11_digest 28 = .ok (.goto (-19), 3) := by decide +kernel
theorem dX11_digest_31 : decode cX11_digest 31 = .ok (.iconst 0, 1) := by decide +kernel
theorem dX11_digest_32 : decode cX11_digest 32 = .ok (.istore_n 1, 1) := by decide +kernel
theorem dX11_digest_33 : decode cX11_digest 33 = .ok (.iload_n 1, 1) := by decide +kernel
theorem dX11_digest_34 : decode cX11_digest 34 = .ok (.aload_n 0, 1) := by decide +kernel
theorem dX11_digest_35 : decode cX11_digest 35 = .ok (.getfield 7, 3) := by decide +kernel
theorem dX11_digest_38 : decode cX11_digest 38 = .ok (.iconst 2, 1) := by decide +kernel
theorem dX11_digest_39 : decode cX11_digest 39 = .ok (.iaload, 1) := by decide +kernel
theorem dX11_digest_40 : decode cX11_digest 40 = .ok (.if_icmp .ge 64, 3) := by decide +kernel
theorem dX11_digest_43 : decode cX11_digest 43 = .ok (.aload_n 0, 1) := by decide +kernel
theorem dX11_digest_44 : decode cX11_digest 44 = .ok (.aload_n 0, 1) := by decide +kernel
theorem dX11_digest_45 : decode cX11_digest 45 = .ok (.getfield 7, 3) := by decide +kernel
theorem dX11_digest_48 : decode cX11_digest 48 = .ok (.iconst 4, 1) := by decide +kernel
theorem dX11_digest_49 : decode cX11_digest 49 = .ok (.iload_n 1, 1) := by decide +kernel
theorem dX11_digest_50 : decode cX11_digest 50 = .ok (.iadd, 1) := by decide +kernel
theorem dX11_digest_51 : decode cX11_digest 51 = .ok (.iaload, 1) := by decide +kernel
theorem dX11_digest_52 : decode cX11_digest 52 = .ok (.i2l, 1) := by decide +kernel
theorem dX11_digest_53 : decode cX11_digest 53 = .ok (.invokevirtual 270, 3) := by decide +kernel
theorem dX11_digest_56 : decode cX11_digest 56 = .ok (.aload_n 0, 1) := by decide +kernel
theorem dX11_digest_57 : decode cX11_digest 57 = .ok (.aload_n 0, 1) := by decide +kernel
theorem dX11_digest_58 : decode cX11_digest 58 = .ok (.getfield 7, 3) := by decide +kernel
theorem dX11_digest_61 : decode cX11_digest 61 = .ok (.bipush 10, 2) := by decide +kernel
theorem dX11_digest_63 : decode cX11_digest 63 = .ok (.iload_n 1, 1) := by decide +kernel
theorem dX11_digest_64 : decode cX11_digest 64 = .ok (.iadd, 1) := by decide +kernel
theorem dX11_digest_65 : decode cX11_digest 65 = .ok (.iaload, 1) := by decide +kernel
theorem dX11_digest_66 : decode cX11_digest 66 = .ok (.i2l, 1) := by decide +kernel
theorem dX11_digest_67 : decode cX11_digest 67 = .ok (.invokevirtual 270, 3) := by decide +kernel
theorem dX11_digest_70 : decode cX11_digest 70 = .ok (.aload_n 0, 1) := by decide +kernel
theorem dX11_digest_71 : decode cX11_digest 71 = .ok (.aload_n 0, 1) := by decide +kernel
theorem dX11_digest_72 : decode cX11_digest 72 = .ok (.getfield 7, 3) := by decide +kernel
theorem dX11_digest_75 : decode cX11_digest 75 = .ok (.bipush 16, 2) := by decide +kernel
theorem dX11_digest_77 : decode cX11_digest 77 = .ok (.iload_n 1, 1) := by decide +kernel
theorem dX11_digest_78 : decode cX11_digest 78 = .ok (.iadd, 1) := by decide +kernel
theorem dX11_digest_79 : decode cX11_digest 79 = .ok (.iaload, 1) := by decide +kernel
theorem dX11_digest_80 : decode cX11_digest 80 = .ok (.i2l, 1) := by decide +kernel
theorem dX11_digest_81 : decode cX11_digest 81 = .ok (.invokevirtual 270, 3) := by decide +kernel
theorem dX11_digest_84 : decode cX11_digest 84 = .ok (.aload_n 0, 1) := by decide +kernel
theorem dX11_digest_85 : decode cX11_digest 85 = .ok (.aload_n 0, 1) := by decide +kernel
theorem dX11_digest_86 : decode cX11_digest 86 = .ok (.getfield 7, 3) := by decide +kernel
theorem dX11_digest_89 : decode cX11_digest 89 = .ok (.bipush 22, 2) := by decide +kernel
theorem dX11_digest_91 : decode cX11_digest 91 = .ok (.iload_n 1, 1) := by decide +kernel
theorem dX11_digest_92 : decode cX11_digest 92 = .ok (.iadd, 1) := by decide +kernel
theorem dX11_digest_93 : decode cX11_digest 93 = .ok (.iaload, 1) := by decide +kernel
theorem dX11_digest_94 : decode cX11_digest 94 = .ok (.i2l, 1) := by decide +kernel
theorem dX11_digest_95 : decode cX11_digest 95 = .ok (.invokevirtual 270, 3) := by decide +kernel
theorem dX11_digest_98 : decode cX11_digest 98 = .ok (.iinc 1 1, 3) := by decide +kernel
theorem dX11_digest_101 : decode cX11_digest 101 = .ok (.goto (-68), 3) := by decide +kernel
theorem dX11_digest_104 : decode cX11_digest 104 = .ok (.iconst 0, 1) := by decide +kernel
theorem dX11_digest_105 : decode cX11_digest 105 = .ok (.istore_n 1, 1) := by decide +kernel
theorem dX11_digest_106 : decode cX11_digest 106 = .ok (.iload_n 1, 1) := by decide +kernel
theorem dX11_digest_107 : decode cX11_digest 107 = .ok (.aload_n 0, 1) := by decide +kernel
theorem dX11_digest_108 : decode cX11_digest 108 = .ok (.getfield 7, 3) := by decide +kernel
theorem dX11_digest_111 : decode cX11_digest 111 = .ok (.iconst 3, 1) := by decide +kernel
theorem dX11_digest_112 : decode cX11_digest 112 = .ok (.iaload, 1) := by decide +kernel
theorem dX11_digest_113 : decode cX11_digest 113 = .ok (.if_icmp .ge 51, 3) := by decide +kernel
theorem dX11_digest_116 : decode cX11_digest 116 = .ok (.aload_n 0, 1) := by decide +kernel
theorem dX11_digest_117 : decode cX11_digest 117 = .ok (.aload_n 0, 1) := by decide +kernel
theorem dX11_digest_118 : decode cX11_digest 118 = .ok (.getfield 7, 3) := by decide +kernel
theorem dX11_digest_121 : decode cX11_digest 121 = .ok (.bipush 28, 2) := by decide +kernel
theorem dX11_digest_123 : decode cX11_digest 123 = .ok (.iload_n 1, 1) := by decide +kernel
theorem dX11_digest_124 : decode cX11_digest 124 = .ok (.iadd, 1) := by decide +kernel
theorem dX11_digest_125 : decode cX11_digest 125 = .ok (.iaload, 1) := by decide +kernel
theorem dX11_digest_126 : decode cX11_digest 126 = .ok (.i2l, 1) := by decide +kernel
theorem dX11_digest_127 : decode cX11_digest 127 = .ok (.invokevirtual 270, 3) := by decide +kernel
theorem dX11_digest_130 : decode cX11_digest 130 = .ok (.aload_n 0, 1) := by decide +kernel
theorem dX11_digest_131 : decode cX11_digest 131 = .ok (.aload_n 0, 1) := by decide +kernel
theorem dX11_digest_132 : decode cX11_digest 132 = .ok (.getfield 7, 3) := by decide +kernel
theorem dX11_digest_135 : decode cX11_digest 135 = .ok (.bipush 32, 2) := by decide +kernel
theorem dX11_digest_137 : decode cX11_digest 137 = .ok (.iload_n 1, 1) := by decide +kernel
theorem dX11_digest_138 : decode cX11_digest 138 = .ok (.iadd, 1) := by decide +kernel
theorem dX11_digest_139 : decode cX11_digest 139 = .ok (.iaload, 1) := by decide +kernel
theorem dX11_digest_140 : decode cX11_digest 140 = .ok (.i2l, 1) := by decide +kernel
theorem dX11_digest_141 : decode cX11_digest 141 = .ok (.invokevirtual 270, 3) := by decide +kernel
theorem dX11_digest_144 : decode cX11_digest 144 = .ok (.aload_n 0, 1) := by decide +kernel
theorem dX11_digest_145 : decode cX11_digest 145 = .ok (.aload_n 0, 1) := by decide +kernel
theorem dX11_digest_146 : decode cX11_digest 146 = .ok (.getfield 7, 3) := by decide +kernel
theorem dX11_digest_149 : decode cX11_digest 149 = .ok (.bipush 36, 2) := by decide +kernel
theorem dX11_digest_151 : decode cX11_digest 151 = .ok (.iload_n 1, 1) := by decide +kernel
theorem dX11_digest_152 : decode cX11_digest 152 = .ok (.iadd, 1) := by decide +kernel
theorem dX11_digest_153 : decode cX11_digest 153 = .ok (.iaload, 1) := by decide +kernel
theorem dX11_digest_154 : decode cX11_digest 154 = .ok (.i2l, 1) := by decide +kernel
theorem dX11_digest_155 : decode cX11_digest 155 = .ok (.invokevirtual 270, 3) := by decide +kernel
theorem dX11_digest_158 : decode cX11_digest 158 = .ok (.iinc 1 1, 3) := by decide +kernel
theorem dX11_digest_161 : decode cX11_digest 161 = .ok (.goto (-55), 3) := by decide +kernel
theorem dX11_digest_164 : decode cX11_digest 164 = .ok (.aload_n 0, 1) := by decide +kernel
theorem dX11_digest_165 : decode cX11_digest 165 = .ok (.bipush 41, 2) := by decide +kernel
theorem dX11_digest_167 : decode cX11_digest 167 = .ok (.iconst 4, 1) := by decide +kernel
theorem dX11_digest_168 : decode cX11_digest 168 = .ok (.aload_n 0, 1) := by decide +kernel
theorem dX11_digest_169 : decode cX11_digest 169 = .ok (.getfield 7, 3) := by decide +kernel
theorem dX11_digest_172 : decode cX11_digest 172 = .ok (.bipush 40, 2) := by decide +kernel
theorem dX11_digest_174 : decode cX11_digest 174 = .ok (.iaload, 1) := by decide +kernel
theorem dX11_digest_175 : decode cX11_digest 175 = .ok (.imul, 1) := by decide +kernel
theorem dX11_digest_176 : decode cX11_digest 176 = .ok (.invokevirtual 276, 3) := by decide +kernel
theorem dX11_digest_179 : decode cX11_digest 179 = .ok (.aload_n 0, 1) := by decide +kernel
theorem dX11_digest_180 : decode cX11_digest 180 = .ok (.bipush 66, 2) := by decide +kernel
theorem dX11_digest_182 : decode cX11_digest 182 = .ok (.iconst 4, 1) := by decide +kernel
theorem dX11_digest_183 : decode cX11_digest 183 = .ok (.aload_n 0, 1) := by decide +kernel
theorem dX11_digest_184 : decode cX11_digest 184 = .ok (.getfield 7, 3) := by decide +kernel
theorem dX11_digest_187 : decode cX11_digest 187 = .ok (.bipush 65, 2) := by decide +kernel
theorem dX11_digest_189 : decode cX11_digest 189 = .ok (.iaload, 1) := by decide +kernel
theorem dX11_digest_190 : decode cX11_digest 190 = .ok (.imul, 1) := by decide +kernel
theorem dX11_digest_191 : decode cX11_digest 191 = .ok (.invokevirtual 276, 3) := by decide +kernel
theorem dX11_digest_194 : decode cX11_digest 194 = .ok (.aload_n 0, 1) := by decide +kernel
theorem dX11_digest_195 : decode cX11_digest 195 = .ok (.aload_n 0, 1) := by decide +kernel
theorem dX11_digest_196 : decode cX11_digest 196 = .ok (.getfield 20, 3) := by decide +kernel
theorem dX11_digest_199 : decode cX11_digest 199 = .ok (.invokevirtual 270, 3) := by decide +kernel
theorem dX11_digest_202 : decode cX11_digest 202 = .ok (.aload_n 0, 1) := by decide +kernel
theorem dX11_digest_203 : decode cX11_digest 203 = .ok (.aload_n 0, 1) := by decide +kernel
theorem dX11_digest_204 : decode cX11_digest 204 = .ok (.getfield 24, 3) := by decide +kernel
theorem dX11_digest_207 : decode cX11_digest 207 = .ok (.invokevirtual 270, 3) := by decide +kernel
theorem dX11_digest_210 : decode cX11_digest 210 = .ok (.aload_n 0, 1) := by decide +kernel
theorem dX11_digest_211 : decode cX11_digest 211 = .ok (.getfield 267, 3) := by decide +kernel
theorem dX11_digest_214 : decode cX11_digest 214 = .ok (.lreturn, 1) := by decide +kernel
def bX11_digest_106 (k106 : Nat → Int32 → gx_H → Option (Int64 × gx_H)) (v0 : Nat) (v1 : Int32) (h : gx_H) : Option (Int64 × gx_H) :=
  (gx_fR h v0 9 0).bind fun a24 =>
  (gx_aI 0 h a24 (3 : Int32)).bind fun x25 =>
  if x25 ≤ v1 then
    (gx_fR h v0 9 0).bind fun a26 =>
    (gx_aI 0 h a26 (40 : Int32)).bind fun x27 =>
    gx_bd (fX11_mixes v0 (41 : Int32) ((4 : Int32) * x27) h) fun u29 h28 =>
    (gx_fR h28 v0 9 0).bind fun a30 =>
    (gx_aI 0 h28 a30 (65 : Int32)).bind fun x31 =>
    gx_bd (fX11_mixes v0 (66 : Int32) ((4 : Int32) * x31) h28) fun u33 h32 =>
    (gx_fJ h32 v0 9 4).bind fun y34 =>
    gx_bd (fX11_mix v0 y34 h32) fun u36 h35 =>
    (gx_fJ h35 v0 9 5).bind fun y37 =>
    gx_bd (fX11_mix v0 y37 h35) fun u39 h38 =>
    (gx_fJ h38 v0 9 13).bind fun y40 =>
    some (y40, h38)
  else
    (gx_fR h v0 9 0).bind fun a41 =>
    (gx_aI 0 h a41 ((28 : Int32) + v1)).bind fun x42 =>
    gx_bd (fX11_mix v0 ((x42).toInt64) h) fun u44 h43 =>
    (gx_fR h43 v0 9 0).bind fun a45 =>
    (gx_aI 0 h43 a45 ((32 : Int32) + v1)).bind fun x46 =>
    gx_bd (fX11_mix v0 ((x46).toInt64) h43) fun u48 h47 =>
    (gx_fR h47 v0 9 0).bind fun a49 =>
    (gx_aI 0 h47 a49 ((36 : Int32) + v1)).bind fun x50 =>
    gx_bd (fX11_mix v0 ((x50).toInt64) h47) fun u52 h51 =>
    k106 v0 (v1 + (1 : Int32)) h51
def fX11_digest_106 : Nat → Nat → Int32 → gx_H → Option (Int64 × gx_H)
  | 0 => fun _ _ _ => none
  | n + 1 => bX11_digest_106 (fX11_digest_106 n)
def bX11_digest_33 (k33 : Nat → Int32 → gx_H → Option (Int64 × gx_H)) (v0 : Nat) (v1 : Int32) (h : gx_H) : Option (Int64 × gx_H) :=
  (gx_fR h v0 9 0).bind fun a6 =>
  (gx_aI 0 h a6 (2 : Int32)).bind fun x7 =>
  if x7 ≤ v1 then
    fX11_digest_106 gx_N v0 (0 : Int32) h
  else
    (gx_fR h v0 9 0).bind fun a8 =>
    (gx_aI 0 h a8 ((4 : Int32) + v1)).bind fun x9 =>
    gx_bd (fX11_mix v0 ((x9).toInt64) h) fun u11 h10 =>
    (gx_fR h10 v0 9 0).bind fun a12 =>
    (gx_aI 0 h10 a12 ((10 : Int32) + v1)).bind fun x13 =>
    gx_bd (fX11_mix v0 ((x13).toInt64) h10) fun u15 h14 =>
    (gx_fR h14 v0 9 0).bind fun a16 =>
    (gx_aI 0 h14 a16 ((16 : Int32) + v1)).bind fun x17 =>
    gx_bd (fX11_mix v0 ((x17).toInt64) h14) fun u19 h18 =>
    (gx_fR h18 v0 9 0).bind fun a20 =>
    (gx_aI 0 h18 a20 ((22 : Int32) + v1)).bind fun x21 =>
    gx_bd (fX11_mix v0 ((x21).toInt64) h18) fun u23 h22 =>
    k33 v0 (v1 + (1 : Int32)) h22
def fX11_digest_33 : Nat → Nat → Int32 → gx_H → Option (Int64 × gx_H)
  | 0 => fun _ _ _ => none
  | n + 1 => bX11_digest_33 (fX11_digest_33 n)
def bX11_digest_9 (k9 : Nat → Int32 → gx_H → Option (Int64 × gx_H)) (v0 : Nat) (v1 : Int32) (h : gx_H) : Option (Int64 × gx_H) :=
  if (11 : Int32) ≤ v1 then
    fX11_digest_33 gx_N v0 (0 : Int32) h
  else
    gx_bd (fX11_countOf v0 v1 h) fun x3 h2 =>
    gx_bd (fX11_mix v0 ((x3).toInt64) h2) fun u5 h4 =>
    k9 v0 (v1 + (1 : Int32)) h4
def fX11_digest_9 : Nat → Nat → Int32 → gx_H → Option (Int64 × gx_H)
  | 0 => fun _ _ _ => none
  | n + 1 => bX11_digest_9 (fX11_digest_9 n)
def fX11_digest (v0 : Nat) (h : gx_H) : Option (Int64 × gx_H) :=
  (gx_isO h v0 9).bind fun _ =>
  (gx_pF h v0 9 13 (.long (1831 : Int64))).bind fun h1 =>
  fX11_digest_9 gx_N v0 (0 : Int32) h1
set_option maxRecDepth 100000 in
set_option maxHeartbeats 4000000 in
theorem gbX11_digest_106 {E : gx_Env} {d : Nat}  (k106 : Nat → Int32 → gx_H → Option (Int64 × gx_H)) (hk106 : ∀ (v0 : Nat) (v1 : Int32) (h : gx_H), gx_G E RX11 cX11_digest 2 (some .long) false (d + 3) 0 0 106 [some (.ref v0), some (.int v1)] [] h (fun x : Int64 => some (.long x)) (k106 v0 v1 h))  : ∀ (v0 : Nat) (v1 : Int32) (h : gx_H), gx_G E RX11 cX11_digest 2 (some .long) false (d + 3) 0 0 106 [some (.ref v0), some (.int v1)] [] h (fun x : Int64 => some (.long x)) (bX11_digest_106 k106 v0 v1 h) := by
  intro v0 v1 h
  unfold bX11_digest_106
  refine gx_iload_n 1 dX11_digest_106 rfl rfl ?_
  refine gx_aload_n 0 dX11_digest_107 rfl rfl ?_
  refine gx_getR kf_RX11_7 dX11_digest_108 (fun a24 => ?_)
  refine gx_iconst (3 : Int32) dX11_digest_111 (by decide) ?_
  refine gx_iald dX11_digest_112 (fun x25 => ?_)
  refine gx_icmp_ge 164 dX11_digest_113 (by decide) (fun _ => ?_) (fun _ => ?_)
  · refine gx_aload_n 0 dX11_digest_164 rfl rfl ?_
    refine gx_bipush (41 : Int32) dX11_digest_165 (by decide) ?_
    refine gx_iconst (4 : Int32) dX11_digest_167 (by decide) ?_
    refine gx_aload_n 0 dX11_digest_168 rfl rfl ?_
    refine gx_getR kf_RX11_7 dX11_digest_169 (fun a26 => ?_)
    refine gx_bipush (40 : Int32) dX11_digest_172 (by decide) ?_
    refine gx_iald dX11_digest_174 (fun x27 => ?_)
    refine gx_imul dX11_digest_175 ?_
    refine gx_callV (ci := 9) (bc := 0) (bs := 0) (mc := 0) (ms := 0) (em' := (fun _ : Unit => none)) [.int (41 : Int32), .int ((4 : Int32) * x27)] kc_RX11_276 rfl dX11_digest_176 rfl rfl (gx_w8 rfl) (fun x q => (gx_isO_of (by unfold fX11_mixes at q; exact q)).2) (fun _ _ q => okX11_mixes (d + 1) q) (fun u29 h28 => ?_)
    refine gx_aload_n 0 dX11_digest_179 rfl rfl ?_
    refine gx_bipush (66 : Int32) dX11_digest_180 (by decide) ?_
    refine gx_iconst (4 : Int32) dX11_digest_182 (by decide) ?_
    refine gx_aload_n 0 dX11_digest_183 rfl rfl ?_
    refine gx_getR kf_RX11_7 dX11_digest_184 (fun a30 => ?_)
    refine gx_bipush (65 : Int32) dX11_digest_187 (by decide) ?_
    refine gx_iald dX11_digest_189 (fun x31 => ?_)
    refine gx_imul dX11_digest_190 ?_
    refine gx_callV (ci := 9) (bc := 0) (bs := 0) (mc := 0) (ms := 0) (em' := (fun _ : Unit => none)) [.int (66 : Int32), .int ((4 : Int32) * x31)] kc_RX11_276 rfl dX11_digest_191 rfl rfl (gx_w8 rfl) (fun x q => (gx_isO_of (by unfold fX11_mixes at q; exact q)).2) (fun _ _ q => okX11_mixes (d + 1) q) (fun u33 h32 => ?_)
    refine gx_aload_n 0 dX11_digest_194 rfl rfl ?_
    refine gx_aload_n 0 dX11_digest_195 rfl rfl ?_
    refine gx_getJ kf_RX11_20 dX11_digest_196 (fun y34 => ?_)
    refine gx_callV (ci := 9) (bc := 0) (bs := 0) (mc := 0) (ms := 0) (em' := (fun _ : Unit => none)) [.long y34] kc_RX11_270 rfl dX11_digest_199 rfl rfl (gx_w8 rfl) (fun x q => (gx_isO_of (by unfold fX11_mix at q; exact q)).2) (fun _ _ q => okX11_mix (d + 2) q) (fun u36 h35 => ?_)
    refine gx_aload_n 0 dX11_digest_202 rfl rfl ?_
    refine gx_aload_n 0 dX11_digest_203 rfl rfl ?_
    refine gx_getJ kf_RX11_24 dX11_digest_204 (fun y37 => ?_)
    refine gx_callV (ci := 9) (bc := 0) (bs := 0) (mc := 0) (ms := 0) (em' := (fun _ : Unit => none)) [.long y37] kc_RX11_270 rfl dX11_digest_207 rfl rfl (gx_w8 rfl) (fun x q => (gx_isO_of (by unfold fX11_mix at q; exact q)).2) (fun _ _ q => okX11_mix (d + 2) q) (fun u39 h38 => ?_)
    refine gx_aload_n 0 dX11_digest_210 rfl rfl ?_
    refine gx_getJ kf_RX11_267 dX11_digest_211 (fun y40 => ?_)
    exact gx_lret dX11_digest_214 rfl
  · refine gx_aload_n 0 dX11_digest_116 rfl rfl ?_
    refine gx_aload_n 0 dX11_digest_117 rfl rfl ?_
    refine gx_getR kf_RX11_7 dX11_digest_118 (fun a41 => ?_)
    refine gx_bipush (28 : Int32) dX11_digest_121 (by decide) ?_
    refine gx_iload_n 1 dX11_digest_123 rfl rfl ?_
    refine gx_iadd dX11_digest_124 ?_
    refine gx_iald dX11_digest_125 (fun x42 => ?_)
    refine gx_i2l dX11_digest_126 ?_
    refine gx_callV (ci := 9) (bc := 0) (bs := 0) (mc := 0) (ms := 0) (em' := (fun _ : Unit => none)) [.long ((x42).toInt64)] kc_RX11_270 rfl dX11_digest_127 rfl rfl (gx_w8 rfl) (fun x q => (gx_isO_of (by unfold fX11_mix at q; exact q)).2) (fun _ _ q => okX11_mix (d + 2) q) (fun u44 h43 => ?_)
    refine gx_aload_n 0 dX11_digest_130 rfl rfl ?_
    refine gx_aload_n 0 dX11_digest_131 rfl rfl ?_
    refine gx_getR kf_RX11_7 dX11_digest_132 (fun a45 => ?_)
    refine gx_bipush (32 : Int32) dX11_digest_135 (by decide) ?_
    refine gx_iload_n 1 dX11_digest_137 rfl rfl ?_
    refine gx_iadd dX11_digest_138 ?_
    refine gx_iald dX11_digest_139 (fun x46 => ?_)
    refine gx_i2l dX11_digest_140 ?_
    refine gx_callV (ci := 9) (bc := 0) (bs := 0) (mc := 0) (ms := 0) (em' := (fun _ : Unit => none)) [.long ((x46).toInt64)] kc_RX11_270 rfl dX11_digest_141 rfl rfl (gx_w8 rfl) (fun x q => (gx_isO_of (by unfold fX11_mix at q; exact q)).2) (fun _ _ q => okX11_mix (d + 2) q) (fun u48 h47 => ?_)
    refine gx_aload_n 0 dX11_digest_144 rfl rfl ?_
    refine gx_aload_n 0 dX11_digest_145 rfl rfl ?_
    refine gx_getR kf_RX11_7 dX11_digest_146 (fun a49 => ?_)
    refine gx_bipush (36 : Int32) dX11_digest_149 (by decide) ?_
    refine gx_iload_n 1 dX11_digest_151 rfl rfl ?_
    refine gx_iadd dX11_digest_152 ?_
    refine gx_iald dX11_digest_153 (fun x50 => ?_)
    refine gx_i2l dX11_digest_154 ?_
    refine gx_callV (ci := 9) (bc := 0) (bs := 0) (mc := 0) (ms := 0) (em' := (fun _ : Unit => none)) [.long ((x50).toInt64)] kc_RX11_270 rfl dX11_digest_155 rfl rfl (gx_w8 rfl) (fun x q => (gx_isO_of (by unfold fX11_mix at q; exact q)).2) (fun _ _ q => okX11_mix (d + 2) q) (fun u52 h51 => ?_)
    refine gx_iinc (1 : Int32) [some (.ref v0), some (.int (v1 + (1 : Int32)))] dX11_digest_158 rfl (by decide) (by decide) rfl ?_
    refine gx_goto 106 dX11_digest_161 (by decide) ?_
    exact gx_sub (hk106 v0 (v1 + (1 : Int32)) h51) (And.intro rfl (And.intro rfl True.intro))
set_option maxRecDepth 100000 in
set_option maxHeartbeats 4000000 in
theorem gX11_digest_106 {E : gx_Env} {d : Nat}  : ∀ (n : Nat) (v0 : Nat) (v1 : Int32) (h : gx_H), gx_G E RX11 cX11_digest 2 (some .long) false (d + 3) 0 0 106 [some (.ref v0), some (.int v1)] [] h (fun x : Int64 => some (.long x)) (fX11_digest_106 n v0 v1 h) := by
  intro n
  induction n with
  | zero => intro v0 v1 h; exact gx_none
  | succ n ih => exact gbX11_digest_106  (fX11_digest_106  n) ih
set_option maxRecDepth 100000 in
set_option maxHeartbeats 4000000 in
theorem gbX11_digest_33 {E : gx_Env} {d : Nat}  (k33 : Nat → Int32 → gx_H → Option (Int64 × gx_H)) (hk33 : ∀ (v0 : Nat) (v1 : Int32) (h : gx_H), gx_G E RX11 cX11_digest 2 (some .long) false (d + 3) 0 0 33 [some (.ref v0), some (.int v1)] [] h (fun x : Int64 => some (.long x)) (k33 v0 v1 h))  : ∀ (v0 : Nat) (v1 : Int32) (h : gx_H), gx_G E RX11 cX11_digest 2 (some .long) false (d + 3) 0 0 33 [some (.ref v0), some (.int v1)] [] h (fun x : Int64 => some (.long x)) (bX11_digest_33 k33 v0 v1 h) := by
  intro v0 v1 h
  unfold bX11_digest_33
  refine gx_iload_n 1 dX11_digest_33 rfl rfl ?_
  refine gx_aload_n 0 dX11_digest_34 rfl rfl ?_
  refine gx_getR kf_RX11_7 dX11_digest_35 (fun a6 => ?_)
  refine gx_iconst (2 : Int32) dX11_digest_38 (by decide) ?_
  refine gx_iald dX11_digest_39 (fun x7 => ?_)
  refine gx_icmp_ge 104 dX11_digest_40 (by decide) (fun _ => ?_) (fun _ => ?_)
  · refine gx_iconst (0 : Int32) dX11_digest_104 (by decide) ?_
    refine gx_istore_n 1 [some (.ref v0), some (.int (0 : Int32))] dX11_digest_105 rfl (by decide) rfl ?_
    exact gx_sub (gX11_digest_106 gx_N v0 (0 : Int32) h) (And.intro rfl (And.intro rfl True.intro))
  · refine gx_aload_n 0 dX11_digest_43 rfl rfl ?_
    refine gx_aload_n 0 dX11_digest_44 rfl rfl ?_
    refine gx_getR kf_RX11_7 dX11_digest_45 (fun a8 => ?_)
    refine gx_iconst (4 : Int32) dX11_digest_48 (by decide) ?_
    refine gx_iload_n 1 dX11_digest_49 rfl rfl ?_
    refine gx_iadd dX11_digest_50 ?_
    refine gx_iald dX11_digest_51 (fun x9 => ?_)
    refine gx_i2l dX11_digest_52 ?_
    refine gx_callV (ci := 9) (bc := 0) (bs := 0) (mc := 0) (ms := 0) (em' := (fun _ : Unit => none)) [.long ((x9).toInt64)] kc_RX11_270 rfl dX11_digest_53 rfl rfl (gx_w8 rfl) (fun x q => (gx_isO_of (by unfold fX11_mix at q; exact q)).2) (fun _ _ q => okX11_mix (d + 2) q) (fun u11 h10 => ?_)
    refine gx_aload_n 0 dX11_digest_56 rfl rfl ?_
    refine gx_aload_n 0 dX11_digest_57 rfl rfl ?_
    refine gx_getR kf_RX11_7 dX11_digest_58 (fun a12 => ?_)
    refine gx_bipush (10 : Int32) dX11_digest_61 (by decide) ?_
    refine gx_iload_n 1 dX11_digest_63 rfl rfl ?_
    refine gx_iadd dX11_digest_64 ?_
    refine gx_iald dX11_digest_65 (fun x13 => ?_)
    refine gx_i2l dX11_digest_66 ?_
    refine gx_callV (ci := 9) (bc := 0) (bs := 0) (mc := 0) (ms := 0) (em' := (fun _ : Unit => none)) [.long ((x13).toInt64)] kc_RX11_270 rfl dX11_digest_67 rfl rfl (gx_w8 rfl) (fun x q => (gx_isO_of (by unfold fX11_mix at q; exact q)).2) (fun _ _ q => okX11_mix (d + 2) q) (fun u15 h14 => ?_)
    refine gx_aload_n 0 dX11_digest_70 rfl rfl ?_
    refine gx_aload_n 0 dX11_digest_71 rfl rfl ?_
    refine gx_getR kf_RX11_7 dX11_digest_72 (fun a16 => ?_)
    refine gx_bipush (16 : Int32) dX11_digest_75 (by decide) ?_
    refine gx_iload_n 1 dX11_digest_77 rfl rfl ?_
    refine gx_iadd dX11_digest_78 ?_
    refine gx_iald dX11_digest_79 (fun x17 => ?_)
    refine gx_i2l dX11_digest_80 ?_
    refine gx_callV (ci := 9) (bc := 0) (bs := 0) (mc := 0) (ms := 0) (em' := (fun _ : Unit => none)) [.long ((x17).toInt64)] kc_RX11_270 rfl dX11_digest_81 rfl rfl (gx_w8 rfl) (fun x q => (gx_isO_of (by unfold fX11_mix at q; exact q)).2) (fun _ _ q => okX11_mix (d + 2) q) (fun u19 h18 => ?_)
    refine gx_aload_n 0 dX11_digest_84 rfl rfl ?_
    refine gx_aload_n 0 dX11_digest_85 rfl rfl ?_
    refine gx_getR kf_RX11_7 dX11_digest_86 (fun a20 => ?_)
    refine gx_bipush (22 : Int32) dX11_digest_89 (by decide) ?_
    refine gx_iload_n 1 dX11_digest_91 rfl rfl ?_
    refine gx_iadd dX11_digest_92 ?_
    refine gx_iald dX11_digest_93 (fun x21 => ?_)
    refine gx_i2l dX11_digest_94 ?_
    refine gx_callV (ci := 9) (bc := 0) (bs := 0) (mc := 0) (ms := 0) (em' := (fun _ : Unit => none)) [.long ((x21).toInt64)] kc_RX11_270 rfl dX11_digest_95 rfl rfl (gx_w8 rfl) (fun x q => (gx_isO_of (by unfold fX11_mix at q; exact q)).2) (fun _ _ q => okX11_mix (d + 2) q) (fun u23 h22 => ?_)
    refine gx_iinc (1 : Int32) [some (.ref v0), some (.int (v1 + (1 : Int32)))] dX11_digest_98 rfl (by decide) (by decide) rfl ?_
    refine gx_goto 33 dX11_digest_101 (by decide) ?_
    exact gx_sub (hk33 v0 (v1 + (1 : Int32)) h22) (And.intro rfl (And.intro rfl True.intro))
set_option maxRecDepth 100000 in
set_option maxHeartbeats 4000000 in
theorem gX11_digest_33 {E : gx_Env} {d : Nat}  : ∀ (n : Nat) (v0 : Nat) (v1 : Int32) (h : gx_H), gx_G E RX11 cX11_digest 2 (some .long) false (d + 3) 0 0 33 [some (.ref v0), some (.int v1)] [] h (fun x : Int64 => some (.long x)) (fX11_digest_33 n v0 v1 h) := by
  intro n
  induction n with
  | zero => intro v0 v1 h; exact gx_none
  | succ n ih => exact gbX11_digest_33  (fX11_digest_33  n) ih
set_option maxRecDepth 100000 in
set_option maxHeartbeats 4000000 in
theorem gbX11_digest_9 {E : gx_Env} {d : Nat}  (k9 : Nat → Int32 → gx_H → Option (Int64 × gx_H)) (hk9 : ∀ (v0 : Nat) (v1 : Int32) (h : gx_H), gx_G E RX11 cX11_digest 2 (some .long) false (d + 3) 0 0 9 [some (.ref v0), some (.int v1)] [] h (fun x : Int64 => some (.long x)) (k9 v0 v1 h))  : ∀ (v0 : Nat) (v1 : Int32) (h : gx_H), gx_G E RX11 cX11_digest 2 (some .long) false (d + 3) 0 0 9 [some (.ref v0), some (.int v1)] [] h (fun x : Int64 => some (.long x)) (bX11_digest_9 k9 v0 v1 h) := by
  intro v0 v1 h
  unfold bX11_digest_9
  refine gx_iload_n 1 dX11_digest_9 rfl rfl ?_
  refine gx_bipush (11 : Int32) dX11_digest_10 (by decide) ?_
  refine gx_icmp_ge 31 dX11_digest_12 (by decide) (fun _ => ?_) (fun _ => ?_)
  · refine gx_iconst (0 : Int32) dX11_digest_31 (by decide) ?_
    refine gx_istore_n 1 [some (.ref v0), some (.int (0 : Int32))] dX11_digest_32 rfl (by decide) rfl ?_
    exact gx_sub (gX11_digest_33 gx_N v0 (0 : Int32) h) (And.intro rfl (And.intro rfl True.intro))
  · refine gx_aload_n 0 dX11_digest_15 rfl rfl ?_
    refine gx_aload_n 0 dX11_digest_16 rfl rfl ?_
    refine gx_iload_n 1 dX11_digest_17 rfl rfl ?_
    refine gx_callV (ci := 9) (bc := 0) (bs := 0) (mc := 0) (ms := 0) (em' := (fun x : Int32 => some (.int x))) [.int v1] kc_RX11_262 rfl dX11_digest_18 rfl rfl (gx_w8 rfl) (fun x q => (gx_isO_of (by unfold fX11_countOf at q; exact q)).2) (fun _ _ q => okX11_countOf d q) (fun x3 h2 => ?_)
    refine gx_i2l dX11_digest_21 ?_
    refine gx_callV (ci := 9) (bc := 0) (bs := 0) (mc := 0) (ms := 0) (em' := (fun _ : Unit => none)) [.long ((x3).toInt64)] kc_RX11_270 rfl dX11_digest_22 rfl rfl (gx_w8 rfl) (fun x q => (gx_isO_of (by unfold fX11_mix at q; exact q)).2) (fun _ _ q => okX11_mix (d + 2) q) (fun u5 h4 => ?_)
    refine gx_iinc (1 : Int32) [some (.ref v0), some (.int (v1 + (1 : Int32)))] dX11_digest_25 rfl (by decide) (by decide) rfl ?_
    refine gx_goto 9 dX11_digest_28 (by decide) ?_
    exact gx_sub (hk9 v0 (v1 + (1 : Int32)) h4) (And.intro rfl (And.intro rfl True.intro))
set_option maxRecDepth 100000 in
set_option maxHeartbeats 4000000 in
theorem gX11_digest_9 {E : gx_Env} {d : Nat}  : ∀ (n : Nat) (v0 : Nat) (v1 : Int32) (h : gx_H), gx_G E RX11 cX11_digest 2 (some .long) false (d + 3) 0 0 9 [some (.ref v0), some (.int v1)] [] h (fun x : Int64 => some (.long x)) (fX11_digest_9 n v0 v1 h) := by
  intro n
  induction n with
  | zero => intro v0 v1 h; exact gx_none
  | succ n ih => exact gbX11_digest_9  (fX11_digest_9  n) ih
set_option maxRecDepth 100000 in
set_option maxHeartbeats 4000000 in
theorem geX11_digest {E : gx_Env} {d : Nat} (v0 : Nat) (h : gx_H) : gx_G E RX11 cX11_digest 2 (some .long) false (d + 3) 0 0 0 [some (.ref v0), none] [] h (fun x : Int64 => some (.long x)) (fX11_digest v0 h) := by
  unfold fX11_digest
  refine gx_bind fun _ _ => ?_
  refine gx_aload_n 0 dX11_digest_0 rfl rfl ?_
  refine gx_ldc2 kk_RX11_274 dX11_digest_1 ?_
  refine gx_putJ kp_RX11_267 (fun q => by cases q) dX11_digest_4 (fun h1 => ?_)
  refine gx_iconst (0 : Int32) dX11_digest_7 (by decide) ?_
  refine gx_istore_n 1 [some (.ref v0), some (.int (0 : Int32))] dX11_digest_8 rfl (by decide) rfl ?_
  exact gx_sub (gX11_digest_9 gx_N v0 (0 : Int32) h1) (And.intro rfl (And.intro rfl True.intro))
theorem okX11_digest {E : gx_Env} (d : Nat) {v0 : Nat} {h : gx_H} {r : Int64} {h1 : gx_H} (q : fX11_digest v0 h = some (r, h1)) : gx_M E yX11_digest cX11_digest 2 (some .long) (d + 3) 0 0 [.ref v0] h ((fun x : Int64 => some (.long x)) r) h1 := gx_meth (y := yX11_digest) (cc := cX11_digest) (nL := 2) (em := (fun x : Int64 => some (.long x))) (ini := false) [.ref v0] (by decide) (by simp [gx_sl]) (fun q => by cases q) (geX11_digest v0 h) q
