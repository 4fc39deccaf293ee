theorem dX11_undo_0 : decode cX11_undo 0 = .ok (.aload_n 0, 1) := by decide +kernel
theorem dX11_undo_1 : decode cX11_undo 1 = .ok (.getfield 7, 3) := by decide +kernel
theorem dX11_undo_4 : decode cX11_undo 4 = .ok (.bipush 90, 2) := by decide +kernel
theorem dX11_undo_6 : decode cX11_undo 6 = .ok (.iaload, 1) := by decide +kernel
theorem dX11_undo_7 : decode cX11_undo 7 = .ok (.ifCond .ne 8, 3) := by decide +kernel
theorem dX11_undo_10 : decode cX11_undo 10 = .ok (.aload_n 0, 1) := by decide +kernel
theorem dX11_undo_11 : decode cX11_undo 11 = .ok (.invokevirtual 94, 3) := by decide +kernel
theorem dX11_undo_14 : decode cX11_undo 14 = .ok (.ireturn, 1) := by decide +kernel
theorem dX11_undo_15 : decode cX11_undo 15 = .ok (.aload_n 0, 1) := by decide +kernel
theorem dX11_undo_16 : decode cX11_undo 16 = .ok (.getfield 7, 3) := by decide +kernel
theorem dX11_undo_19 : decode cX11_undo 19 = .ok (.bipush 90, 2) := by decide +kernel
theorem dX11_undo_21 : decode cX11_undo 21 = .ok (.dup2, 1) := by decide +kernel
theorem dX11_undo_22 : decode cX11_undo 22 = .ok (.iaload, 1) := by decide +kernel
theorem dX11_undo_23 : decode cX11_undo 23 = .ok (.iconst 1, 1) := by decide +kernel
theorem dX11_undo_24 : decode cX11_undo 24 = .ok (.isub, 1) := by decide +kernel
theorem dX11_undo_25 : decode cX11_undo 25 = .ok (.iastore, 1) := by decide +kernel
theorem dX11_undo_26 : decode cX11_undo 26 = .ok (.bipush 91, 2) := by decide +kernel
theorem dX11_undo_28 : decode cX11_undo 28 = .ok (.bipush 14, 2) := by decide +kernel
theorem dX11_undo_30 : decode cX11_undo 30 = .ok (.aload_n 0, 1) := by decide +kernel
theorem dX11_undo_31 : decode cX11_undo 31 = .ok (.getfield 7, 3) := by decide +kernel
theorem dX11_undo_34 : decode cX11_undo 34 = .ok (.bipush 90, 2) := by decide +kernel
theorem dX11_undo_36 : decode cX11_undo 36 = .ok (.iaload, 1) := by decide +kernel
theorem dX11_undo_37 : decode cX11_undo 37 = .ok (.imul, 1) := by decide +kernel
theorem dX11_undo_38 : decode cX11_undo 38 = .ok (.iadd, 1) := by decide +kernel
theorem dX11_undo_39 : decode cX11_undo 39 = .ok (.istore_n 1, 1) := by decide +kernel
theorem dX11_undo_40 : decode cX11_undo 40 = .ok (.iconst 0, 1) := by decide +kernel
theorem dX11_undo_41 : decode cX11_undo 41 = .ok (.istore_n 2, 1) := by decide +kernel
theorem dX11_undo_42 : decode cX11_undo 42 = .ok (.iload_n 2, 1) := by decide +kernel
theorem dX11_undo_43 : decode cX11_undo 43 = .ok (.iconst 4, 1) := by decide +kernel
theorem dX11_undo_44 : decode cX11_undo 44 = .ok (.if_icmp .ge 45, 3) := by decide +kernel
theorem dX11_undo_47 : decode cX11_undo 47 = .ok (.aload_n 0, 1) := by decide +kernel
theorem dX11_undo_48 : decode cX11_undo 48 = .ok (.getfield 7, 3) := by decide +kernel
theorem dX11_undo_51 : decode cX11_undo 51 = .ok (.bipush 32, 2) := by decide +kernel
theorem dX11_undo_53 : decode cX11_undo 53 = .ok (.iload_n 2, 1) := by decide +kernel
theorem dX11_undo_54 : decode cX11_undo 54 = .ok (.iadd, 1) := by decide +kernel
theorem dX11_undo_55 : decode cX11_undo 55 = .ok (.aload_n 0, 1) := by decide +kernel
theorem dX11_undo_56 : decode cX11_undo 56 = .ok (.getfield 7, 3) := by decide +kernel
theorem dX11_undo_59 : decode cX11_undo 59 = .ok (.iload_n 1, 1) := by decide +kernel
theorem dX11_undo_60 : decode cX11_undo 60 = .ok (.iload_n 2, 1) := by decide +kernel
theorem dX11_undo_61 : decode cX11_undo 61 = .ok (.iadd, 1) := by decide +kernel
theorem dX11_undo_62 : decode cX11_undo 62 = .ok (.iaload, 1) := by decide +kernel
theorem dX11_undo_63 : decode cX11_undo 63 = .ok (.iastore, 1) := by decide +kernel
theorem dX11_undo_64 : decode cX11_undo 64 = .ok (.aload_n 0, 1) := by decide +kernel
theorem dX11_undo_65 : decode cX11_undo 65 = .ok (.getfield 7, 3) := by decide +kernel
theorem dX11_undo_68 : decode cX11_undo 68 = .ok (.bipush 36, 2) := by decide +kernel
theorem dX11_undo_70 : decode cX11_undo 70 = .ok (.iload_n 2, 1) := by decide +kernel
theorem dX11_undo_71 : decode cX11_undo 71 = .ok (.iadd, 1) := by decide +kernel
theorem dX11_undo_72 : decode cX11_undo 72 = .ok (.aload_n 0, 1) := by decide +kernel
theorem dX11_undo_73 : decode cX11_undo 73 = .ok (.getfield 7, 3) := by decide +kernel
theorem dX11_undo_76 : decode cX11_undo 76 = .ok (.iload_n 1, 1) := by decide +kernel
theorem dX11_undo_77 : decode cX11_undo 77 = .ok (.iconst 4, 1) := by decide +kernel
theorem dX11_undo_78 : decode cX11_undo 78 = .ok (.iadd, 1) := by decide +kernel
theorem dX11_undo_79 : decode cX11_undo 79 = .ok (.iload_n 2, 1) := by decide +kernel
theorem dX11_undo_80 : decode cX11_undo 80 = .ok (.iadd, 1) := by decide +kernel
theorem dX11_undo_81 : decode cX11_undo 81 = .ok (.iaload, 1) := by decide +kernel
theorem dX11_undo_82 : decode cX11_undo 82 = .ok (.iastore, 1) := by decide +kernel
theorem dX11_undo_83 : decode cX11_undo 83 = .ok (.iinc 2 1, 3) := by decide +kernel
theorem dX11_undo_86 : decode cX11_undo 86 = .ok (.goto (-44), 3) := by decide +kernel
theorem dX11_undo_89 : decode cX11_undo 89 = .ok (.iconst 0, 1) := by decide +kernel
theorem dX11_undo_90 : decode cX11_undo 90 = .ok (.istore_n 2, 1) := by decide +kernel
theorem dX11_undo_91 : decode cX11_undo 91 = .ok (.iload_n 2, 1) := by decide +kernel
theorem dX11_undo_92 : decode cX11_undo 92 = .ok (.bipush 6, 2) := by decide +kernel
theorem dX11_undo_94 : decode cX11_undo 94 = .ok (.if_icmp .ge 29, 3) := by decide +kernel
theorem dX11_undo_97 : decode cX11_undo 97 = .ok (.aload_n 0, 1) := by decide +kernel
theorem dX11_undo_98 : decode cX11_undo 98 = .ok (.getfield 7, 3) := by decide +kernel
theorem dX11_undo_101 : decode cX11_undo 101 = .ok (.bipush 22, 2) := by decide +kernel
theorem dX11_undo_103 : decode cX11_undo 103 = .ok (.iload_n 2, 1) := by decide +kernel
theorem dX11_undo_104 : decode cX11_undo 104 = .ok (.iadd, 1) := by decide +kernel
theorem dX11_undo_105 : decode cX11_undo 105 = .ok (.aload_n 0, 1) := by decide +kernel
theorem dX11_undo_106 : decode cX11_undo 106 = .ok (.getfield 7, 3) := by decide +kernel
theorem dX11_undo_109 : decode cX11_undo 109 = .ok (.iload_n 1, 1) := by decide +kernel
theorem dX11_undo_110 : decode cX11_undo 110 = .ok (.bipush 8, 2) := by decide +kernel
theorem dX11_undo_112 : decode cX11_undo 112 = .ok (.iadd, 1) := by decide +kernel
theorem dX11_undo_113 : decode cX11_undo 113 = .ok (.iload_n 2, 1) := by decide +kernel
theorem dX11_undo_114 : decode cX11_undo 114 = .ok (.iadd, 1) := by decide +kernel
theorem dX11_undo_115 : decode cX11_undo 115 = .ok (.iaload, 1) := by decide +kernel
theorem dX11_undo_116 : decode cX11_undo 116 = .ok (.iastore, 1) := by decide +kernel
theorem dX11_undo_117 : decode cX11_undo 117 = .ok (.iinc 2 1, 3) := by decide +kernel
theorem dX11_undo_120 : decode cX11_undo 120 = .ok (.goto (-29), 3) := by decide +kernel
theorem dX11_undo_123 : decode cX11_undo 123 = .ok (.aload_n 0, 1) := by decide +kernel
theorem dX11_undo_124 : decode cX11_undo 124 = .ok (.iconst 0, 1) := by decide +kernel
theorem dX11_undo_125 : decode cX11_undo 125 = .ok (.invokevirtual 194, 3) := by decide +kernel
theorem dX11_undo_128 : decode cX11_undo 128 = .ok (.ireturn, 1) := by decide +kernel
def bX11_undo_91 (k91 : Nat → Int32 → Int32 → gx_H → Option (Int32 × gx_H)) (v0 : Nat) (v1 : Int32) (v2 : Int32) (h : gx_H) : Option (Int32 × gx_H) :=
  if (6 : Int32) ≤ v2 then
    gx_bd (fX11_homes v0 (0 : Int32) h) fun x19 h18 =>
    some (x19, h18)
  else
    (gx_fR h v0 9 0).bind fun a20 =>
    (gx_fR h v0 9 0).bind fun a21 =>
    (gx_aI 0 h a21 ((v1 + (8 : Int32)) + v2)).bind fun x22 =>
    (gx_sI 0 h a20 ((22 : Int32) + v2) x22).bind fun h23 =>
    k91 v0 v1 (v2 + (1 : Int32)) h23
def fX11_undo_91 : Nat → Nat → Int32 → Int32 → gx_H → Option (Int32 × gx_H)
  | 0 => fun _ _ _ _ => none
  | n + 1 => bX11_undo_91 (fX11_undo_91 n)
def bX11_undo_42 (k42 : Nat → Int32 → Int32 → gx_H → Option (Int32 × gx_H)) (v0 : Nat) (v1 : Int32) (v2 : Int32) (h : gx_H) : Option (Int32 × gx_H) :=
  if (4 : Int32) ≤ v2 then
    fX11_undo_91 gx_N v0 v1 (0 : Int32) h
  else
    (gx_fR h v0 9 0).bind fun a10 =>
    (gx_fR h v0 9 0).bind fun a11 =>
    (gx_aI 0 h a11 (v1 + v2)).bind fun x12 =>
    (gx_sI 0 h a10 ((32 : Int32) + v2) x12).bind fun h13 =>
    (gx_fR h13 v0 9 0).bind fun a14 =>
    (gx_fR h13 v0 9 0).bind fun a15 =>
    (gx_aI 0 h13 a15 ((v1 + (4 : Int32)) + v2)).bind fun x16 =>
    (gx_sI 0 h13 a14 ((36 : Int32) + v2) x16).bind fun h17 =>
    k42 v0 v1 (v2 + (1 : Int32)) h17
def fX11_undo_42 : Nat → Nat → Int32 → Int32 → gx_H → Option (Int32 × gx_H)
  | 0 => fun _ _ _ _ => none
  | n + 1 => bX11_undo_42 (fX11_undo_42 n)
def fX11_undo (v0 : Nat) (h : gx_H) : Option (Int32 × gx_H) :=
  (gx_isO h v0 9).bind fun _ =>
  (gx_fR h v0 9 0).bind fun a1 =>
  (gx_aI 0 h a1 (90 : Int32)).bind fun x2 =>
  if x2 = 0 then
    gx_bd (fX11_no v0 h) fun x9 h8 =>
    some (x9, h8)
  else
    (gx_fR h v0 9 0).bind fun a3 =>
    (gx_aI 0 h a3 (90 : Int32)).bind fun x4 =>
    (gx_sI 0 h a3 (90 : Int32) (x4 - (1 : Int32))).bind fun h5 =>
    (gx_fR h5 v0 9 0).bind fun a6 =>
    (gx_aI 0 h5 a6 (90 : Int32)).bind fun x7 =>
    fX11_undo_42 gx_N v0 ((91 : Int32) + ((14 : Int32) * x7)) (0 : Int32) h5
set_option maxRecDepth 100000 in
set_option maxHeartbeats 4000000 in
theorem gbX11_undo_91 {E : gx_Env} {d : Nat}  (k91 : Nat → Int32 → Int32 → gx_H → Option (Int32 × gx_H)) (hk91 : ∀ (v0 : Nat) (v1 : Int32) (v2 : Int32) (h : gx_H), gx_G E RX11 cX11_undo 3 (some .int) false (d + 2) 0 0 91 [some (.ref v0), some (.int v1), some (.int v2)] [] h (fun x : Int32 => some (.int x)) (k91 v0 v1 v2 h))  : ∀ (v0 : Nat) (v1 : Int32) (v2 : Int32) (h : gx_H), gx_G E RX11 cX11_undo 3 (some .int) false (d + 2) 0 0 91 [some (.ref v0), some (.int v1), some (.int v2)] [] h (fun x : Int32 => some (.int x)) (bX11_undo_91 k91 v0 v1 v2 h) := by
  intro v0 v1 v2 h
  unfold bX11_undo_91
  refine gx_iload_n 2 dX11_undo_91 rfl rfl ?_
  refine gx_bipush (6 : Int32) dX11_undo_92 (by decide) ?_
  refine gx_icmp_ge 123 dX11_undo_94 (by decide) (fun _ => ?_) (fun _ => ?_)
  · refine gx_aload_n 0 dX11_undo_123 rfl rfl ?_
    refine gx_iconst (0 : Int32) dX11_undo_124 (by decide) ?_
    refine gx_callV (ci := 9) (bc := 0) (bs := 0) (mc := 0) (ms := 0) (em' := (fun x : Int32 => some (.int x))) [.int (0 : Int32)] kc_RX11_194 rfl dX11_undo_125 rfl rfl (gx_w8 rfl) (fun x q => (gx_isO_of (by unfold fX11_homes at q; exact q)).2) (fun _ _ q => okX11_homes d q) (fun x19 h18 => ?_)
    exact gx_iret dX11_undo_128 rfl
  · refine gx_aload_n 0 dX11_undo_97 rfl rfl ?_
    refine gx_getR kf_RX11_7 dX11_undo_98 (fun a20 => ?_)
    refine gx_bipush (22 : Int32) dX11_undo_101 (by decide) ?_
    refine gx_iload_n 2 dX11_undo_103 rfl rfl ?_
    refine gx_iadd dX11_undo_104 ?_
    refine gx_aload_n 0 dX11_undo_105 rfl rfl ?_
    refine gx_getR kf_RX11_7 dX11_undo_106 (fun a21 => ?_)
    refine gx_iload_n 1 dX11_undo_109 rfl rfl ?_
    refine gx_bipush (8 : Int32) dX11_undo_110 (by decide) ?_
    refine gx_iadd dX11_undo_112 ?_
    refine gx_iload_n 2 dX11_undo_113 rfl rfl ?_
    refine gx_iadd dX11_undo_114 ?_
    refine gx_iald dX11_undo_115 (fun x22 => ?_)
    refine gx_iast dX11_undo_116 (fun h23 => ?_)
    refine gx_iinc (1 : Int32) [some (.ref v0), some (.int v1), some (.int (v2 + (1 : Int32)))] dX11_undo_117 rfl (by decide) (by decide) rfl ?_
    refine gx_goto 91 dX11_undo_120 (by decide) ?_
    exact gx_sub (hk91 v0 v1 (v2 + (1 : Int32)) h23) (And.intro rfl (And.intro rfl (And.intro rfl True.intro)))
set_option maxRecDepth 100000 in
set_option maxHeartbeats 4000000 in
theorem gX11_undo_91 {E : gx_Env} {d : Nat}  : ∀ (n : Nat) (v0 : Nat) (v1 : Int32) (v2 : Int32) (h : gx_H), gx_G E RX11 cX11_undo 3 (some .int) false (d + 2) 0 0 91 [some (.ref v0), some (.int v1), some (.int v2)] [] h (fun x : Int32 => some (.int x)) (fX11_undo_91 n v0 v1 v2 h) := by
  intro n
  induction n with
  | zero => intro v0 v1 v2 h; exact gx_none
  | succ n ih => exact gbX11_undo_91  (fX11_undo_91  n) ih
set_option maxRecDepth 100000 in
set_option maxHeartbeats 4000000 in
theorem gbX11_undo_42 {E : gx_Env} {d : Nat}  (k42 : Nat → Int32 → Int32 → gx_H → Option (Int32 × gx_H)) (hk42 : ∀ (v0 : Nat) (v1 : Int32) (v2 : Int32) (h : gx_H), gx_G E RX11 cX11_undo 3 (some .int) false (d + 2) 0 0 42 [some (.ref v0), some (.int v1), some (.int v2)] [] h (fun x : Int32 => some (.int x)) (k42 v0 v1 v2 h))  : ∀ (v0 : Nat) (v1 : Int32) (v2 : Int32) (h : gx_H), gx_G E RX11 cX11_undo 3 (some .int) false (d + 2) 0 0 42 [some (.ref v0), some (.int v1), some (.int v2)] [] h (fun x : Int32 => some (.int x)) (bX11_undo_42 k42 v0 v1 v2 h) := by
  intro v0 v1 v2 h
  unfold bX11_undo_42
  refine gx_iload_n 2 dX11_undo_42 rfl rfl ?_
  refine gx_iconst (4 : Int32) dX11_undo_43 (by decide) ?_
  refine gx_icmp_ge 89 dX11_undo_44 (by decide) (fun _ => ?_) (fun _ => ?_)
  · refine gx_iconst (0 : Int32) dX11_undo_89 (by decide) ?_
    refine gx_istore_n 2 [some (.ref v0), some (.int v1), some (.int (0 : Int32))] dX11_undo_90 rfl (by decide) rfl ?_
    exact gx_sub (gX11_undo_91 gx_N v0 v1 (0 : Int32) h) (And.intro rfl (And.intro rfl (And.intro rfl True.intro)))
  · refine gx_aload_n 0 dX11_undo_47 rfl rfl ?_
    refine gx_getR kf_RX11_7 dX11_undo_48 (fun a10 => ?_)
    refine gx_bipush (32 : Int32) dX11_undo_51 (by decide) ?_
    refine gx_iload_n 2 dX11_undo_53 rfl rfl ?_
    refine gx_iadd dX11_undo_54 ?_
    refine gx_aload_n 0 dX11_undo_55 rfl rfl ?_
    refine gx_getR kf_RX11_7 dX11_undo_56 (fun a11 => ?_)
    refine gx_iload_n 1 dX11_undo_59 rfl rfl ?_
    refine gx_iload_n 2 dX11_undo_60 rfl rfl ?_
    refine gx_iadd dX11_undo_61 ?_
    refine gx_iald dX11_undo_62 (fun x12 => ?_)
    refine gx_iast dX11_undo_63 (fun h13 => ?_)
    refine gx_aload_n 0 dX11_undo_64 rfl rfl ?_
    refine gx_getR kf_RX11_7 dX11_undo_65 (fun a14 => ?_)
    refine gx_bipush (36 : Int32) dX11_undo_68 (by decide) ?_
    refine gx_iload_n 2 dX11_undo_70 rfl rfl ?_
    refine gx_iadd dX11_undo_71 ?_
    refine gx_aload_n 0 dX11_undo_72 rfl rfl ?_
    refine gx_getR kf_RX11_7 dX11_undo_73 (fun a15 => ?_)
    refine gx_iload_n 1 dX11_undo_76 rfl rfl ?_
    refine gx_iconst (4 : Int32) dX11_undo_77 (by decide) ?_
    refine gx_iadd dX11_undo_78 ?_
    refine gx_iload_n 2 dX11_undo_79 rfl rfl ?_
    refine gx_iadd dX11_undo_80 ?_
    refine gx_iald dX11_undo_81 (fun x16 => ?_)
    refine gx_iast dX11_undo_82 (fun h17 => ?_)
    refine gx_iinc (1 : Int32) [some (.ref v0), some (.int v1), some (.int (v2 + (1 : Int32)))] dX11_undo_83 rfl (by decide) (by decide) rfl ?_
    refine gx_goto 42 dX11_undo_86 (by decide) ?_
    exact gx_sub (hk42 v0 v1 (v2 + (1 : Int32)) h17) (And.intro rfl (And.intro rfl (And.intro rfl True.intro)))
set_option maxRecDepth 100000 in
set_option maxHeartbeats 4000000 in
theorem gX11_undo_42 {E : gx_Env} {d : Nat}  : ∀ (n : Nat) (v0 : Nat) (v1 : Int32) (v2 : Int32) (h : gx_H), gx_G E RX11 cX11_undo 3 (some .int) false (d + 2) 0 0 42 [some (.ref v0), some (.int v1), some (.int v2)] [] h (fun x : Int32 => some (.int x)) (fX11_undo_42 n v0 v1 v2 h) := by
  intro n
  induction n with
  | zero => intro v0 v1 v2 h; exact gx_none
  | succ n ih => exact gbX11_undo_42  (fX11_undo_42  n) ih
set_option maxRecDepth 100000 in
set_option maxHeartbeats 4000000 in
theorem geX11_undo {E : gx_Env} {d : Nat} (v0 : Nat) (h : gx_H) : gx_G E RX11 cX11_undo 3 (some .int) false (d + 2) 0 0 0 [some (.ref v0), none, none] [] h (fun x : Int32 => some (.int x)) (fX11_undo v0 h) := by
  unfold fX11_undo
  refine gx_bind fun _ _ => ?_
  refine gx_aload_n 0 dX11_undo_0 rfl rfl ?_
  refine gx_getR kf_RX11_7 dX11_undo_1 (fun a1 => ?_)
  refine gx_bipush (90 : Int32) dX11_undo_4 (by decide) ?_
  refine gx_iald dX11_undo_6 (fun x2 => ?_)
  refine gx_if_ne 15 dX11_undo_7 (by decide) (fun _ => ?_) (fun _ => ?_)
  · refine gx_aload_n 0 dX11_undo_15 rfl rfl ?_
    refine gx_getR kf_RX11_7 dX11_undo_16 (fun a3 => ?_)
    refine gx_bipush (90 : Int32) dX11_undo_19 (by decide) ?_
    refine gx_dup2 dX11_undo_21 rfl rfl ?_
    refine gx_iald dX11_undo_22 (fun x4 => ?_)
    refine gx_iconst (1 : Int32) dX11_undo_23 (by decide) ?_
    refine gx_isub dX11_undo_24 ?_
    refine gx_iast dX11_undo_25 (fun h5 => ?_)
    refine gx_bipush (91 : Int32) dX11_undo_26 (by decide) ?_
    refine gx_bipush (14 : Int32) dX11_undo_28 (by decide) ?_
    refine gx_aload_n 0 dX11_undo_30 rfl rfl ?_
    refine gx_getR kf_RX11_7 dX11_undo_31 (fun a6 => ?_)
    refine gx_bipush (90 : Int32) dX11_undo_34 (by decide) ?_
    refine gx_iald dX11_undo_36 (fun x7 => ?_)
    refine gx_imul dX11_undo_37 ?_
    refine gx_iadd dX11_undo_38 ?_
    refine gx_istore_n 1 [some (.ref v0), some (.int ((91 : Int32) + ((14 : Int32) * x7))), none] dX11_undo_39 rfl (by decide) rfl ?_
    refine gx_iconst (0 : Int32) dX11_undo_40 (by decide) ?_
    refine gx_istore_n 2 [some (.ref v0), some (.int ((91 : Int32) + ((14 : Int32) * x7))), some (.int (0 : Int32))] dX11_undo_41 rfl (by decide) rfl ?_
    exact gx_sub (gX11_undo_42 gx_N v0 ((91 : Int32) + ((14 : Int32) * x7)) (0 : Int32) h5) (And.intro rfl (And.intro rfl (And.intro rfl True.intro)))
  · refine gx_aload_n 0 dX11_undo_10 rfl rfl ?_
    refine gx_callV (ci := 9) (bc := 0) (bs := 0) (mc := 0) (ms := 0) (em' := (fun x : Int32 => some (.int x))) [] kc_RX11_94 rfl dX11_undo_11 rfl rfl (gx_w8 rfl) (fun x q => (gx_isO_of (by unfold fX11_no at q; exact q)).2) (fun _ _ q => okX11_no (d + 1) q) (fun x9 h8 => ?_)
    exact gx_iret dX11_undo_14 rfl
theorem okX11_undo {E : gx_Env} (d : Nat) {v0 : Nat} {h : gx_H} {r : Int32} {h1 : gx_H} (q : fX11_undo v0 h = some (r, h1)) : gx_M E yX11_undo cX11_undo 3 (some .int) (d + 2) 0 0 [.ref v0] h ((fun x : Int32 => some (.int x)) r) h1 := gx_meth (y := yX11_undo) (cc := cX11_undo) (nL := 3) (em := (fun x : Int32 => some (.int x))) (ini := false) [.ref v0] (by decide) (by simp [gx_sl]) (fun q => by cases q) (geX11_undo v0 h) q
theorem dX11_of_0 : decode cX11_of 0 = .ok (.aload_n 0, 1) := by decide +kernel
theorem dX11_of_1 : decode cX11_of 1 = .ok (.iload_n 1, 1) := by decide +kernel
theorem dX11_of_2 : decode cX11_of 2 = .ok (.invokevirtual 185, 3) := by decide +kernel
theorem dX11_of_5 : decode cX11_of 5 = .ok (.ifCond .eq 15, 3) := by decide +kernel
theorem dX11_of_8 : decode cX11_of 8 = .ok (.iload_n 2, 1) := by decide +kernel
theorem dX11_of_9 : decode cX11_of 9 = .ok (.i2l, 1) := by decide +kernel
theorem dX11_of_10 : decode cX11_of 10 = .ok (.lconst 0, 1) := by decide +kernel
theorem dX11_of_11 : decode cX11_of 11 = .ok (.ldc2_w 77, 3) := by decide +kernel
theorem dX11_of_14 : decode cX11_of 14 = .ok (.invokestatic 39, 3) := by decide +kernel
theorem dX11_of_17 : decode cX11_of 17 = .ok (.ifCond .ne 10, 3) := by decide +kernel
theorem dX11_of_20 : decode cX11_of 20 = .ok (.aload_n 0, 1) := by decide +kernel
theorem dX11_of_21 : decode cX11_of 21 = .ok (.bipush (-2), 2) := by decide +kernel
theorem dX11_of_23 : decode cX11_of 23 = .ok (.invokevirtual 81, 3) := by decide +kernel
theorem dX11_of_26 : decode cX11_of 26 = .ok (.ireturn, 1) := by decide +kernel
theorem dX11_of_27 : decode cX11_of 27 = .ok (.aload_n 0, 1) := by decide +kernel
theorem dX11_of_28 : decode cX11_of 28 = .ok (.getfield 7, 3) := by decide +kernel
theorem dX11_of_31 : decode cX11_of 31 = .ok (.bipush 28, 2) := by decide +kernel
theorem dX11_of_33 : decode cX11_of 33 = .ok (.iconst 4, 1) := by decide +kernel
theorem dX11_of_34 : decode cX11_of 34 = .ok (.iload_n 2, 1) := by decide +kernel
theorem dX11_of_35 : decode cX11_of 35 = .ok (.imul, 1) := by decide +kernel
theorem dX11_of_36 : decode cX11_of 36 = .ok (.iadd, 1) := by decide +kernel
theorem dX11_of_37 : decode cX11_of 37 = .ok (.iload_n 1, 1) := by decide +kernel
theorem dX11_of_38 : decode cX11_of 38 = .ok (.iadd, 1) := by decide +kernel
theorem dX11_of_39 : decode cX11_of 39 = .ok (.iaload, 1) := by decide +kernel
theorem dX11_of_40 : decode cX11_of 40 = .ok (.ireturn, 1) := by decide +kernel
def fX11_of_20 (v0 : Nat) (h : gx_H) : Option (Int32 × gx_H) :=
  gx_bd (fX11_bad v0 (-2 : Int32) h) fun x8 h7 =>
  some (x8, h7)
def fX11_of (v0 : Nat) (v1 : Int32) (v2 : Int32) (h : gx_H) : Option (Int32 × gx_H) :=
  (gx_isO h v0 9).bind fun _ =>
  gx_bd (fX11_isPlayer v0 v1 h) fun x2 h1 =>
  if x2 = 0 then
    fX11_of_20 v0 h1
  else
    gx_bd (fX11_in ((v2).toInt64) (0 : Int64) (2 : Int64) h1) fun x4 h3 =>
    if x4 = 0 then
      fX11_of_20 v0 h3
    else
      (gx_fR h3 v0 9 0).bind fun a5 =>
      (gx_aI 0 h3 a5 (((28 : Int32) + ((4 : Int32) * v2)) + v1)).bind fun x6 =>
      some (x6, h3)
set_option maxRecDepth 100000 in
set_option maxHeartbeats 4000000 in
theorem gX11_of_20 {E : gx_Env} {d : Nat}  : ∀ (v0 : Nat) (h : gx_H), gx_G E RX11 cX11_of 3 (some .int) false (d + 2) 0 0 20 [some (.ref v0), none, none] [] h (fun x : Int32 => some (.int x)) (fX11_of_20 v0 h) := by
  intro v0 h
  unfold fX11_of_20
  refine gx_aload_n 0 dX11_of_20 rfl rfl ?_
  refine gx_bipush (-2 : Int32) dX11_of_21 (by decide) ?_
  refine gx_callV (ci := 9) (bc := 0) (bs := 0) (mc := 0) (ms := 0) (em' := (fun x : Int32 => some (.int x))) [.int (-2 : Int32)] kc_RX11_81 rfl dX11_of_23 rfl rfl (gx_w8 rfl) (fun x q => (gx_isO_of (by unfold fX11_bad at q; exact q)).2) (fun _ _ q => okX11_bad (d + 1) q) (fun x8 h7 => ?_)
  exact gx_iret dX11_of_26 rfl
set_option maxRecDepth 100000 in
set_option maxHeartbeats 4000000 in
theorem geX11_of {E : gx_Env} {d : Nat} (v0 : Nat) (v1 : Int32) (v2 : Int32) (h : gx_H) : gx_G E RX11 cX11_of 3 (some .int) false (d + 2) 0 0 0 [some (.ref v0), some (.int v1), some (.int v2)] [] h (fun x : Int32 => some (.int x)) (fX11_of v0 v1 v2 h) := by
  unfold fX11_of
  refine gx_bind fun _ _ => ?_
  refine gx_aload_n 0 dX11_of_0 rfl rfl ?_
  refine gx_iload_n 1 dX11_of_1 rfl rfl ?_
  refine gx_callV (ci := 9) (bc := 0) (bs := 0) (mc := 0) (ms := 0) (em' := (fun x : Int32 => some (.int x))) [.int v1] kc_RX11_185 rfl dX11_of_2 rfl rfl (gx_w8 rfl) (fun x q => (gx_isO_of (by unfold fX11_isPlayer at q; exact q)).2) (fun _ _ q => okX11_isPlayer d q) (fun x2 h1 => ?_)
  refine gx_if_eq 20 dX11_of_5 (by decide) (fun _ => ?_) (fun _ => ?_)
  · exact gx_sub (gX11_of_20 v0 h1) (And.intro rfl True.intro)
  · refine gx_iload_n 2 dX11_of_8 rfl rfl ?_
    refine gx_i2l dX11_of_9 ?_
    refine gx_lconst (0 : Int64) dX11_of_10 (by decide) ?_
    refine gx_ldc2 kk_RX11_77 dX11_of_11 ?_
    refine gx_callS (bc := 0) (bs := 0) (mc := 0) (ms := 0) (em' := (fun x : Int32 => some (.int x))) [.long ((v2).toInt64), .long (0 : Int64), .long (2 : Int64)] kc_RX11_39 dX11_of_14 rfl rfl (gx_w8 rfl) (fun _ _ q => okX11_in (d + 1) q) (fun x4 h3 => ?_)
    refine gx_if_ne 27 dX11_of_17 (by decide) (fun _ => ?_) (fun _ => ?_)
    · refine gx_aload_n 0 dX11_of_27 rfl rfl ?_
      refine gx_getR kf_RX11_7 dX11_of_28 (fun a5 => ?_)
      refine gx_bipush (28 : Int32) dX11_of_31 (by decide) ?_
      refine gx_iconst (4 : Int32) dX11_of_33 (by decide) ?_
      refine gx_iload_n 2 dX11_of_34 rfl rfl ?_
      refine gx_imul dX11_of_35 ?_
      refine gx_iadd dX11_of_36 ?_
      refine gx_iload_n 1 dX11_of_37 rfl rfl ?_
      refine gx_iadd dX11_of_38 ?_
      refine gx_iald dX11_of_39 (fun x6 => ?_)
      exact gx_iret dX11_of_40 rfl
    · exact gx_sub (gX11_of_20 v0 h3) (And.intro rfl True.intro)
theorem okX11_of {E : gx_Env} (d : Nat) {v0 : Nat} {v1 : Int32} {v2 : Int32} {h : gx_H} {r : Int32} {h1 : gx_H} (q : fX11_of v0 v1 v2 h = some (r, h1)) : gx_M E yX11_of cX11_of 3 (some .int) (d + 2) 0 0 [.ref v0, .int v1, .int v2] h ((fun x : Int32 => some (.int x)) r) h1 := gx_meth (y := yX11_of) (cc := cX11_of) (nL := 3) (em := (fun x : Int32 => some (.int x))) (ini := false) [.ref v0, .int v1, .int v2] (by decide) (by simp [gx_sl]) (fun q => by cases q) (geX11_of v0 v1 v2 h) q
theorem dX11_about_0 : decode cX11_about 0 = .ok (.aload_n 0, 1) := by decide +kernel
theorem dX11_about_1 : decode cX11_about 1 = .ok (.iload_n 1, 1) := by decide +kernel
theorem dX11_about_2 : decode cX11_about 2 = .ok (.invokevirtual 197, 3) := by decide +kernel
theorem dX11_about_5 : decode cX11_about 5 = .ok (.ifCond .eq 15, 3) := by decide +kernel
theorem dX11_about_8 : decode cX11_about 8 = .ok (.iload_n 2, 1) := by decide +kernel
theorem dX11_about_9 : decode cX11_about 9 = .ok (.i2l, 1) := by decide +kernel
theorem dX11_about_10 : decode cX11_about 10 = .ok (.lconst 0, 1) := by decide +kernel
theorem dX11_about_11 : decode cX11_about 11 = .ok (.ldc2_w 200, 3) := by decide +kernel
theorem dX11_about_14 : decode cX11_about 14 = .ok (.invokestatic 39, 3) := by decide +kernel
theorem dX11_about_17 : decode cX11_about 17 = .ok (.ifCond .ne 10, 3) := by decide +kernel
theorem dX11_about_20 : decode cX11_about 20 = .ok (.aload_n 0, 1) := by decide +kernel
theorem dX11_about_21 : decode cX11_about 21 = .ok (.bipush (-2), 2) := by decide +kernel
theorem dX11_about_23 : decode cX11_about 23 = .ok (.invokevirtual 81, 3) := by decide +kernel
theorem dX11_about_26 : decode cX11_about 26 = .ok (.ireturn, 1) := by decide +kernel
theorem dX11_about_27 : decode cX11_about 27 = .ok (.aload_n 0, 1) := by decide +kernel
theorem dX11_about_28 : decode cX11_about 28 = .ok (.getfield 7, 3) := by decide +kernel
theorem dX11_about_31 : decode cX11_about 31 = .ok (.iconst 4, 1) := by decide +kernel
theorem dX11_about_32 : decode cX11_about 32 = .ok (.bipush 6, 2) := by decide +kernel
theorem dX11_about_34 : decode cX11_about 34 = .ok (.iload_n 2, 1) := by decide +kernel
theorem dX11_about_35 : decode cX11_about 35 = .ok (.imul, 1) := by decide +kernel
theorem dX11_about_36 : decode cX11_about 36 = .ok (.iadd, 1) := by decide +kernel
theorem dX11_about_37 : decode cX11_about 37 = .ok (.iload_n 1, 1) := by decide +kernel
theorem dX11_about_38 : decode cX11_about 38 = .ok (.iadd, 1) := by decide +kernel
theorem dX11_about_39 : decode cX11_about 39 = .ok (.iaload, 1) := by decide +kernel
theorem dX11_about_40 : decode cX11_about 40 = .ok (.ireturn, 1) := by decide +kernel
def fX11_about_20 (v0 : Nat) (h : gx_H) : Option (Int32 × gx_H) :=
  gx_bd (fX11_bad v0 (-2 : Int32) h) fun x8 h7 =>
  some (x8, h7)
def fX11_about (v0 : Nat) (v1 : Int32) (v2 : Int32) (h : gx_H) : Option (Int32 × gx_H) :=
  (gx_isO h v0 9).bind fun _ =>
  gx_bd (fX11_isLink v0 v1 h) fun x2 h1 =>
  if x2 = 0 then
    fX11_about_20 v0 h1
  else
    gx_bd (fX11_in ((v2).toInt64) (0 : Int64) (3 : Int64) h1) fun x4 h3 =>
    if x4 = 0 then
      fX11_about_20 v0 h3
    else
      (gx_fR h3 v0 9 0).bind fun a5 =>
      (gx_aI 0 h3 a5 (((4 : Int32) + ((6 : Int32) * v2)) + v1)).bind fun x6 =>
      some (x6, h3)
set_option maxRecDepth 100000 in
set_option maxHeartbeats 4000000 in
theorem gX11_about_20 {E : gx_Env} {d : Nat}  : ∀ (v0 : Nat) (h : gx_H), gx_G E RX11 cX11_about 3 (some .int) false (d + 2) 0 0 20 [some (.ref v0), none, none] [] h (fun x : Int32 => some (.int x)) (fX11_about_20 v0 h) := by
  intro v0 h
  unfold fX11_about_20
  refine gx_aload_n 0 dX11_about_20 rfl rfl ?_
  refine gx_bipush (-2 : Int32) dX11_about_21 (by decide) ?_
  refine gx_callV (ci := 9) (bc := 0) (bs := 0) (mc := 0) (ms := 0) (em' := (fun x : Int32 => some (.int x))) [.int (-2 : Int32)] kc_RX11_81 rfl dX11_about_23 rfl rfl (gx_w8 rfl) (fun x q => (gx_isO_of (by unfold fX11_bad at q; exact q)).2) (fun _ _ q => okX11_bad (d + 1) q) (fun x8 h7 => ?_)
  exact gx_iret dX11_about_26 rfl
set_option maxRecDepth 100000 in
set_option maxHeartbeats 4000000 in
theorem geX11_about {E : gx_Env} {d : Nat} (v0 : Nat) (v1 : Int32) (v2 : Int32) (h : gx_H) : gx_G E RX11 cX11_about 3 (some .int) false (d + 2) 0 0 0 [some (.ref v0), some (.int v1), some (.int v2)] [] h (fun x : Int32 => some (.int x)) (fX11_about v0 v1 v2 h) := by
  unfold fX11_about
  refine gx_bind fun _ _ => ?_
  refine gx_aload_n 0 dX11_about_0 rfl rfl ?_
  refine gx_iload_n 1 dX11_about_1 rfl rfl ?_
  refine gx_callV (ci := 9) (bc := 0) (bs := 0) (mc := 0) (ms := 0) (em' := (fun x : Int32 => some (.int x))) [.int v1] kc_RX11_197 rfl dX11_about_2 rfl rfl (gx_w8 rfl) (fun x q => (gx_isO_of (by unfold fX11_isLink at q; exact q)).2) (fun _ _ q => okX11_isLink d q) (fun x2 h1 => ?_)
  refine gx_if_eq 20 dX11_about_5 (by decide) (fun _ => ?_) (fun _ => ?_)
  · exact gx_sub (gX11_about_20 v0 h1) (And.intro rfl True.intro)
  · refine gx_iload_n 2 dX11_about_8 rfl rfl ?_
    refine gx_i2l dX11_about_9 ?_
    refine gx_lconst (0 : Int64) dX11_about_10 (by decide) ?_
    refine gx_ldc2 kk_RX11_200 dX11_about_11 ?_
    refine gx_callS (bc := 0) (bs := 0) (mc := 0) (ms := 0) (em' := (fun x : Int32 => some (.int x))) [.long ((v2).toInt64), .long (0 : Int64), .long (3 : Int64)] kc_RX11_39 dX11_about_14 rfl rfl (gx_w8 rfl) (fun _ _ q => okX11_in (d + 1) q) (fun x4 h3 => ?_)
    refine gx_if_ne 27 dX11_about_17 (by decide) (fun _ => ?_) (fun _ => ?_)
    · refine gx_aload_n 0 dX11_about_27 rfl rfl ?_
      refine gx_getR kf_RX11_7 dX11_about_28 (fun a5 => ?_)
      refine gx_iconst (4 : Int32) dX11_about_31 (by decide) ?_
      refine gx_bipush (6 : Int32) dX11_about_32 (by decide) ?_
      refine gx_iload_n 2 dX11_about_34 rfl rfl ?_
      refine gx_imul dX11_about_35 ?_
      refine gx_iadd dX11_about_36 ?_
      refine gx_iload_n 1 dX11_about_37 rfl rfl ?_
      refine gx_iadd dX11_about_38 ?_
      refine gx_iald dX11_about_39 (fun x6 => ?_)
      exact gx_iret dX11_about_40 rfl
    · exact gx_sub (gX11_about_20 v0 h3) (And.intro rfl True.intro)
theorem okX11_about {E : gx_Env} (d : Nat) {v0 : Nat} {v1 : Int32} {v2 : Int32} {h : gx_H} {r : Int32} {h1 : gx_H} (q : fX11_about v0 v1 v2 h = some (r, h1)) : gx_M E yX11_about cX11_about 3 (some .int) (d + 2) 0 0 [.ref v0, .int v1, .int v2] h ((fun x : Int32 => some (.int x)) r) h1 := gx_meth (y := yX11_about) (cc := cX11_about) (nL := 3) (em := (fun x : Int32 => some (.int x))) (ini := false) [.ref v0, .int v1, .int v2] (by decide) (by simp [gx_sl]) (fun q => by cases q) (geX11_about v0 v1 v2 h) q
theorem dX11_tries_0 : decode cX11_tries 0 = .ok (.iconst 0, 1) := by decide +kernel
theorem dX11_tries_1 : decode cX11_tries 1 = .ok (.istore_n 1, 1) := by decide +kernel
theorem dX11_tries_2 : decode cX11_tries 2 = .ok (.iload_n 1, 1) := by decide +kernel
theorem dX11_tries_3 : decode cX11_tries 3 = .ok (.bipush 40, 2) := by decide +kernel
theorem dX11_tries_5 : decode cX11_tries 5 = .ok (.if_icmp .ge 25, 3) := by decide +kernel
theorem dX11_tries_8 : decode cX11_tries 8 = .ok (.aload_n 0, 1) := by decide +kernel
theorem dX11_tries_9 : decode cX11_tries 9 = .ok (.getfield 7, 3) := by decide +kernel
theorem dX11_tries_12 : decode cX11_tries 12 = .ok (.sipush 812, 3) := by decide +kernel
theorem dX11_tries_15 : decode cX11_tries 15 = .ok (.iload_n 1, 1) := by decide +kernel
theorem dX11_tries_16 : decode cX11_tries 16 = .ok (.iadd, 1) := by decide +kernel
theorem dX11_tries_17 : decode cX11_tries 17 = .ok (.aload_n 0, 1) := by decide +kernel
theorem dX11_tries_18 : decode cX11_tries 18 = .ok (.getfield 7, 3) := by decide +kernel
theorem dX11_tries_21 : decode cX11_tries 21 = .ok (.iload_n 1, 1) := by decide +kernel
theorem dX11_tries_22 : decode cX11_tries 22 = .ok (.iaload, 1) := by decide +kernel
theorem dX11_tries_23 : decode cX11_tries 23 = .ok (.iastore, 1) := by decide +kernel
theorem dX11_tries_24 : decode cX11_tries 24 = .ok (.iinc 1 1, 3) := by decide +kernel
theorem dX11_tries_27 : decode cX11_tries 27 = .ok (.goto (-25), 3) := by decide +kernel
theorem dX11_tries_30 : decode cX11_tries 30 = .ok (.return_, 1) := by decide +kernel
def bX11_tries_2 (k2 : Nat → Int32 → gx_H → Option (Unit × gx_H)) (v0 : Nat) (v1 : Int32) (h : gx_H) : Option (Unit × gx_H) :=
  if (40 : Int32) ≤ v1 then
    some ((), h)
  else
    (gx_fR h v0 9 0).bind fun a1 =>
    (gx_fR h v0 9 0).bind fun a2 =>
    (gx_aI 0 h a2 v1).bind fun x3 =>
    (gx_sI 0 h a1 ((812 : Int32) + v1) x3).bind fun h4 =>
    k2 v0 (v1 + (1 : Int32)) h4
def fX11_tries_2 : Nat → Nat → Int32 → gx_H → Option (Unit × gx_H)
  | 0 => fun _ _ _ => none
  | n + 1 => bX11_tries_2 (fX11_tries_2 n)
def fX11_tries (v0 : Nat) (h : gx_H) : Option (Unit × gx_H) :=
  (gx_isO h v0 9).bind fun _ =>
  fX11_tries_2 gx_N v0 (0 : Int32) h
set_option maxRecDepth 100000 in
set_option maxHeartbeats 4000000 in
theorem gbX11_tries_2 {E : gx_Env} {d : Nat}  (k2 : Nat → Int32 → gx_H → Option (Unit × gx_H)) (hk2 : ∀ (v0 : Nat) (v1 : Int32) (h : gx_H), gx_G E RX11 cX11_tries 2 none false d 0 0 2 [some (.ref v0), some (.int v1)] [] h (fun _ : Unit => none) (k2 v0 v1 h))  : ∀ (v0 : Nat) (v1 : Int32) (h : gx_H), gx_G E RX11 cX11_tries 2 none false d 0 0 2 [some (.ref v0), some (.int v1)] [] h (fun _ : Unit => none) (bX11_tries_2 k2 v0 v1 h) := by
  intro v0 v1 h
  unfold bX11_tries_2
  refine gx_iload_n 1 dX11_tries_2 rfl rfl ?_
  refine gx_bipush (40 : Int32) dX11_tries_3 (by decide) ?_
  refine gx_icmp_ge 30 dX11_tries_5 (by decide) (fun _ => ?_) (fun _ => ?_)
  · exact gx_vret dX11_tries_30 rfl
  · refine gx_aload_n 0 dX11_tries_8 rfl rfl ?_
    refine gx_getR kf_RX11_7 dX11_tries_9 (fun a1 => ?_)
    refine gx_sipush (812 : Int32) dX11_tries_12 (by decide) ?_
    refine gx_iload_n 1 dX11_tries_15 rfl rfl ?_
    refine gx_iadd dX11_tries_16 ?_
    refine gx_aload_n 0 dX11_tries_17 rfl rfl ?_
    refine gx_getR kf_RX11_7 dX11_tries_18 (fun a2 => ?_)
    refine gx_iload_n 1 dX11_tries_21 rfl rfl ?_
    refine gx_iald dX11_tries_22 (fun x3 => ?_)
    refine gx_iast dX11_tries_23 (fun h4 => ?_)
    refine gx_iinc (1 : Int32) [some (.ref v0), some (.int (v1 + (1 : Int32)))] dX11_tries_24 rfl (by decide) (by decide) rfl ?_
    refine gx_goto 2 dX11_tries_27 (by decide) ?_
    exact gx_sub (hk2 v0 (v1 + (1 : Int32)) h4) (And.intro rfl (And.intro rfl True.intro))
set_option maxRecDepth 100000 in
set_option maxHeartbeats 4000000 in
theorem gX11_tries_2 {E : gx_Env} {d : Nat}  : ∀ (n : Nat) (v0 : Nat) (v1 : Int32) (h : gx_H), gx_G E RX11 cX11_tries 2 none false d 0 0 2 [some (.ref v0), some (.int v1)] [] h (fun _ : Unit => none) (fX11_tries_2 n v0 v1 h) := by
  intro n
  induction n with
  | zero => intro v0 v1 h; exact gx_none
  | succ n ih => exact gbX11_tries_2  (fX11_tries_2  n) ih
set_option maxRecDepth 100000 in
set_option maxHeartbeats 4000000 in
theorem geX11_tries {E : gx_Env} {d : Nat} (v0 : Nat) (h : gx_H) : gx_G E RX11 cX11_tries 2 none false d 0 0 0 [some (.ref v0), none] [] h (fun _ : Unit => none) (fX11_tries v0 h) := by
  unfold fX11_tries
  refine gx_bind fun _ _ => ?_
  refine gx_iconst (0 : Int32) dX11_tries_0 (by decide) ?_
  refine gx_istore_n 1 [some (.ref v0), some (.int (0 : Int32))] dX11_tries_1 rfl (by decide) rfl ?_
  exact gx_sub (gX11_tries_2 gx_N v0 (0 : Int32) h) (And.intro rfl (And.intro rfl True.intro))
theorem okX11_tries {E : gx_Env} (d : Nat) {v0 : Nat} {h : gx_H} {r : Unit} {h1 : gx_H} (q : fX11_tries v0 h = some (r, h1)) : gx_M E yX11_tries cX11_tries 2 none d 0 0 [.ref v0] h ((fun _ : Unit => none) r) h1 := gx_meth (y := yX11_tries) (cc := cX11_tries) (nL := 2) (em := (fun _ : Unit => none)) (ini := false) [.ref v0] (by decide) (by simp [gx_sl]) (fun q => by cases q) (geX11_tries v0 h) q
theorem dX11_rollsTried_0 : decode cX11_rollsTried 0 = .ok (.aload_n 0, 1) := by decide +kernel
theorem dX11_rollsTried_1 : decode cX11_rollsTried 1 = .ok (.sipush 812, 3) := by decide +kernel
theorem dX11_rollsTried_4 : decode cX11_rollsTried 4 = .ok (.iload_n 1, 1) := by decide +kernel
theorem dX11_rollsTried_5 : decode cX11_rollsTried 5 = .ok (.invokevirtual 57, 3) := by decide +kernel
theorem dX11_rollsTried_8 : decode cX11_rollsTried 8 = .ok (.ifCond .ne 12, 3) := by decide +kernel
theorem dX11_rollsTried_11 : decode cX11_rollsTried 11 = .ok (.aload_n 0, 1) := by decide +kernel
theorem dX11_rollsTried_12 : decode cX11_rollsTried 12 = .ok (.sipush 812, 3) := by decide +kernel
theorem dX11_rollsTried_15 : decode cX11_rollsTried 15 = .ok (.iload_n 1, 1) := by decide +kernel
theorem dX11_rollsTried_16 : decode cX11_rollsTried 16 = .ok (.iload_n 2, 1) := by decide +kernel
theorem dX11_rollsTried_17 : decode cX11_rollsTried 17 = .ok (.invokevirtual 149, 3) := by decide +kernel
theorem dX11_rollsTried_20 : decode cX11_rollsTried 20 = .ok (.return_, 1) := by decide +kernel
def fX11_rollsTried_20 (h : gx_H) : Option (Unit × gx_H) :=
  some ((), h)
def fX11_rollsTried (v0 : Nat) (v1 : Int32) (v2 : Int32) (h : gx_H) : Option (Unit × gx_H) :=
  (gx_isO h v0 9).bind fun _ =>
  gx_bd (fX11_isHome v0 (812 : Int32) v1 h) fun x2 h1 =>
  if x2 = 0 then
    gx_bd (fX11_throwsOne v0 (812 : Int32) v1 v2 h1) fun u4 h3 =>
    fX11_rollsTried_20 h3
  else
    fX11_rollsTried_20 h1
set_option maxRecDepth 100000 in
set_option maxHeartbeats 4000000 in
theorem gX11_rollsTried_20 {E : gx_Env} {d : Nat}  : ∀  (h : gx_H), gx_G E RX11 cX11_rollsTried 3 none false (d + 4) 0 0 20 [none, none, none] [] h (fun _ : Unit => none) (fX11_rollsTried_20 h) := by
  intro  h
  unfold fX11_rollsTried_20
  exact gx_vret dX11_rollsTried_20 rfl
set_option maxRecDepth 100000 in
set_option maxHeartbeats 4000000 in
theorem geX11_rollsTried {E : gx_Env} {d : Nat} (v0 : Nat) (v1 : Int32) (v2 : Int32) (h : gx_H) : gx_G E RX11 cX11_rollsTried 3 none false (d + 4) 0 0 0 [some (.ref v0), some (.int v1), some (.int v2)] [] h (fun _ : Unit => none) (fX11_rollsTried v0 v1 v2 h) := by
  unfold fX11_rollsTried
  refine gx_bind fun _ _ => ?_
  refine gx_aload_n 0 dX11_rollsTried_0 rfl rfl ?_
  refine gx_sipush (812 : Int32) dX11_rollsTried_1 (by decide) ?_
  refine gx_iload_n 1 dX11_rollsTried_4 rfl rfl ?_
  refine gx_callV (ci := 9) (bc := 0) (bs := 0) (mc := 0) (ms := 0) (em' := (fun x : Int32 => some (.int x))) [.int (812 : Int32), .int v1] kc_RX11_57 rfl dX11_rollsTried_5 rfl rfl (gx_w8 rfl) (fun x q => (gx_isO_of (by unfold fX11_isHome at q; exact q)).2) (fun _ _ q => okX11_isHome (d + 3) q) (fun x2 h1 => ?_)
  refine gx_if_ne 20 dX11_rollsTried_8 (by decide) (fun _ => ?_) (fun _ => ?_)
  · exact gx_sub (gX11_rollsTried_20 h1) True.intro
  · refine gx_aload_n 0 dX11_rollsTried_11 rfl rfl ?_
    refine gx_sipush (812 : Int32) dX11_rollsTried_12 (by decide) ?_
    refine gx_iload_n 1 dX11_rollsTried_15 rfl rfl ?_
    refine gx_iload_n 2 dX11_rollsTried_16 rfl rfl ?_
    refine gx_callV (ci := 9) (bc := 0) (bs := 0) (mc := 0) (ms := 0) (em' := (fun _ : Unit => none)) [.int (812 : Int32), .int v1, .int v2] kc_RX11_149 rfl dX11_rollsTried_17 rfl rfl (gx_w8 rfl) (fun x q => (gx_isO_of (by unfold fX11_throwsOne at q; exact q)).2) (fun _ _ q => okX11_throwsOne d q) (fun u4 h3 => ?_)
    exact gx_sub (gX11_rollsTried_20 h3) True.intro
theorem okX11_rollsTried {E : gx_Env} (d : Nat) {v0 : Nat} {v1 : Int32} {v2 : Int32} {h : gx_H} {r : Unit} {h1 : gx_H} (q : fX11_rollsTried v0 v1 v2 h = some (r, h1)) : gx_M E yX11_rollsTried cX11_rollsTried 3 none (d + 4) 0 0 [.ref v0, .int v1, .int v2] h ((fun _ : Unit => none) r) h1 := gx_meth (y := yX11_rollsTried) (cc := cX11_rollsTried) (nL := 3) (em := (fun _ : Unit => none)) (ini := false) [.ref v0, .int v1, .int v2] (by decide) (by simp [gx_sl]) (fun q => by cases q) (geX11_rollsTried v0 v1 v2 h) q
theorem dX11_rowsOf_0 : decode cX11_rowsOf 0 = .ok (.iconst 1, 1) := by decide +kernel
theorem dX11_rowsOf_1 : decode cX11_rowsOf 1 = .ok (.istore_n 2, 1) := by decide +kernel
theorem dX11_rowsOf_2 : decode cX11_rowsOf 2 = .ok (.iconst 0, 1) := by decide +kernel
theorem dX11_rowsOf_3 : decode cX11_rowsOf 3 = .ok (.istore_n 3, 1) := by decide +kernel
theorem dX11_rowsOf_4 : decode cX11_rowsOf 4 = .ok (.iload_n 3, 1) := by decide +kernel
theorem dX11_rowsOf_5 : decode cX11_rowsOf 5 = .ok (.iload_n 1, 1) := by decide +kernel
theorem dX11_rowsOf_6 : decode cX11_rowsOf 6 = .ok (.if_icmp .ge 18, 3) := by decide +kernel
theorem dX11_rowsOf_9 : decode cX11_rowsOf 9 = .ok (.iload_n 2, 1) := by decide +kernel
theorem dX11_rowsOf_10 : decode cX11_rowsOf 10 = .ok (.aload_n 0, 1) := by decide +kernel
theorem dX11_rowsOf_11 : decode cX11_rowsOf 11 = .ok (.getfield 7, 3) := by decide +kernel
theorem dX11_rowsOf_14 : decode cX11_rowsOf 14 = .ok (.iconst 1, 1) := by decide +kernel
theorem dX11_rowsOf_15 : decode cX11_rowsOf 15 = .ok (.iaload, 1) := by decide +kernel
theorem dX11_rowsOf_16 : decode cX11_rowsOf 16 = .ok (.imul, 1) := by decide +kernel
theorem dX11_rowsOf_17 : decode cX11_rowsOf 17 = .ok (.istore_n 2, 1) := by decide +kernel
theorem dX11_rowsOf_18 : decode cX11_rowsOf 18 = .ok (.iinc 3 1, 3) := by decide +kernel
theorem dX11_rowsOf_21 : decode cX11_rowsOf 21 = .ok (.goto (-17), 3) := by decide +kernel
theorem dX11_rowsOf_24 : decode cX11_rowsOf 24 = .ok (.iload_n 2, 1) := by decide +kernel
theorem dX11_rowsOf_25 : decode cX11_rowsOf 25 = .ok (.ireturn, 1) := by decide +kernel
def bX11_rowsOf_4 (k4 : Nat → Int32 → Int32 → Int32 → gx_H → Option (Int32 × gx_H)) (v0 : Nat) (v1 : Int32) (v2 : Int32) (v3 : Int32) (h : gx_H) : Option (Int32 × gx_H) :=
  if v1 ≤ v3 then
    some (v2, h)
  else
    (gx_fR h v0 9 0).bind fun a1 =>
    (gx_aI 0 h a1 (1 : Int32)).bind fun x2 =>
    k4 v0 v1 (v2 * x2) (v3 + (1 : Int32)) h
def fX11_rowsOf_4 : Nat → Nat → Int32 → Int32 → Int32 → gx_H → Option (Int32 × gx_H)
  | 0 => fun _ _ _ _ _ => none
  | n + 1 => bX11_rowsOf_4 (fX11_rowsOf_4 n)
def fX11_rowsOf (v0 : Nat) (v1 : Int32) (h : gx_H) : Option (Int32 × gx_H) :=
  (gx_isO h v0 9).bind fun _ =>
  fX11_rowsOf_4 gx_N v0 v1 (1 : Int32) (0 : Int32) h
set_option maxRecDepth 100000 in
set_option maxHeartbeats 4000000 in
theorem gbX11_rowsOf_4 {E : gx_Env} {d : Nat}  (k4 : Nat → Int32 → Int32 → Int32 → gx_H → Option (Int32 × gx_H)) (hk4 : ∀ (v0 : Nat) (v1 : Int32) (v2 : Int32) (v3 : Int32) (h : gx_H), gx_G E RX11 cX11_rowsOf 4 (some .int) false d 0 0 4 [some (.ref v0), some (.int v1), some (.int v2), some (.int v3)] [] h (fun x : Int32 => some (.int x)) (k4 v0 v1 v2 v3 h))  : ∀ (v0 : Nat) (v1 : Int32) (v2 : Int32) (v3 : Int32) (h : gx_H), gx_G E RX11 cX11_rowsOf 4 (some .int) false d 0 0 4 [some (.ref v0), some (.int v1), some (.int v2), some (.int v3)] [] h (fun x : Int32 => some (.int x)) (bX11_rowsOf_4 k4 v0 v1 v2 v3 h) := by
  intro v0 v1 v2 v3 h
  unfold bX11_rowsOf_4
  refine gx_iload_n 3 dX11_rowsOf_4 rfl rfl ?_
  refine gx_iload_n 1 dX11_rowsOf_5 rfl rfl ?_
  refine gx_icmp_ge 24 dX11_rowsOf_6 (by decide) (fun _ => ?_) (fun _ => ?_)
  · refine gx_iload_n 2 dX11_rowsOf_24 rfl rfl ?_
    exact gx_iret dX11_rowsOf_25 rfl
  · refine gx_iload_n 2 dX11_rowsOf_9 rfl rfl ?_
    refine gx_aload_n 0 dX11_rowsOf_10 rfl rfl ?_
    refine gx_getR kf_RX11_7 dX11_rowsOf_11 (fun a1 => ?_)
    refine gx_iconst (1 : Int32) dX11_rowsOf_14 (by decide) ?_
    refine gx_iald dX11_rowsOf_15 (fun x2 => ?_)
    refine gx_imul dX11_rowsOf_16 ?_
    refine gx_istore_n 2 [some (.ref v0), some (.int v1), some (.int (v2 * x2)), some (.int v3)] dX11_rowsOf_17 rfl (by decide) rfl ?_
    refine gx_iinc (1 : Int32) [some (.ref v0), some (.int v1), some (.int (v2 * x2)), some (.int (v3 + (1 : Int32)))] dX11_rowsOf_18 rfl (by decide) (by decide) rfl ?_
    refine gx_goto 4 dX11_rowsOf_21 (by decide) ?_
    exact gx_sub (hk4 v0 v1 (v2 * x2) (v3 + (1 : Int32)) h) (And.intro rfl (And.intro rfl (And.intro rfl (And.intro rfl True.intro))))
set_option maxRecDepth 100000 in
set_option maxHeartbeats 4000000 in
theorem gX11_rowsOf_4 {E : gx_Env} {d : Nat}  : ∀ (n : Nat) (v0 : Nat) (v1 : Int32) (v2 : Int32) (v3 : Int32) (h : gx_H), gx_G E RX11 cX11_rowsOf 4 (some .int) false d 0 0 4 [some (.ref v0), some (.int v1), some (.int v2), some (.int v3)] [] h (fun x : Int32 => some (.int x)) (fX11_rowsOf_4 n v0 v1 v2 v3 h) := by
  intro n
  induction n with
  | zero => intro v0 v1 v2 v3 h; exact gx_none
  | succ n ih => exact gbX11_rowsOf_4  (fX11_rowsOf_4  n) ih
set_option maxRecDepth 100000 in
set_option maxHeartbeats 4000000 in
theorem geX11_rowsOf {E : gx_Env} {d : Nat} (v0 : Nat) (v1 : Int32) (h : gx_H) : gx_G E RX11 cX11_rowsOf 4 (some .int) false d 0 0 0 [some (.ref v0), some (.int v1), none, none] [] h (fun x : Int32 => some (.int x)) (fX11_rowsOf v0 v1 h) := by
  unfold fX11_rowsOf
  refine gx_bind fun _ _ => ?_
  refine gx_iconst (1 : Int32) dX11_rowsOf_0 (by decide) ?_
  refine gx_istore_n 2 [some (.ref v0), some (.int v1), some (.int (1 : Int32)), none] dX11_rowsOf_1 rfl (by decide) rfl ?_
  refine gx_iconst (0 : Int32) dX11_rowsOf_2 (by decide) ?_
  refine gx_istore_n 3 [some (.ref v0), some (.int v1), some (.int (1 : Int32)), some (.int (0 : Int32))] dX11_rowsOf_3 rfl (by decide) rfl ?_
  exact gx_sub (gX11_rowsOf_4 gx_N v0 v1 (1 : Int32) (0 : Int32) h) (And.intro rfl (And.intro rfl (And.intro rfl (And.intro rfl True.intro))))
theorem okX11_rowsOf {E : gx_Env} (d : Nat) {v0 : Nat} {v1 : Int32} {h : gx_H} {r : Int32} {h1 : gx_H} (q : fX11_rowsOf v0 v1 h = some (r, h1)) : gx_M E yX11_rowsOf cX11_rowsOf 4 (some .int) d 0 0 [.ref v0, .int v1] h ((fun x : Int32 => some (.int x)) r) h1 := gx_meth (y := yX11_rowsOf) (cc := cX11_rowsOf) (nL := 4) (em := (fun x : Int32 => some (.int x))) (ini := false) [.ref v0, .int v1] (by decide) (by simp [gx_sl]) (fun q => by cases q) (geX11_rowsOf v0 v1 h) q
theorem dX11_plays_0 : decode cX11_plays 0 = .ok (.aload_n 0, 1) := by decide +kernel
theorem dX11_plays_1 : decode cX11_plays 1 = .ok (.iload_n 3, 1) := by decide +kernel
theorem dX11_plays_2 : decode cX11_plays 2 = .ok (.invokevirtual 202, 3) := by decide +kernel
theorem dX11_plays_5 : decode cX11_plays 5 = .ok (.istore 4, 2) := by decide +kernel
theorem dX11_plays_7 : decode cX11_plays 7 = .ok (.iconst 0, 1) := by decide +kernel
theorem dX11_plays_8 : decode cX11_plays 8 = .ok (.istore 5, 2) := by decide +kernel
theorem dX11_plays_10 : decode cX11_plays 10 = .ok (.iload 5, 2) := by decide +kernel
theorem dX11_plays_12 : decode cX11_plays 12 = .ok (.iload_n 3, 1) := by decide +kernel
theorem dX11_plays_13 : decode cX11_plays 13 = .ok (.if_icmp .ge 38, 3) := by decide +kernel
theorem dX11_plays_16 : decode cX11_plays 16 = .ok (.iload 4, 2) := by decide +kernel
theorem dX11_plays_18 : decode cX11_plays 18 = .ok (.aload_n 0, 1) := by decide +kernel
theorem dX11_plays_19 : decode cX11_plays 19 = .ok (.getfield 7, 3) := by decide +kernel
theorem dX11_plays_22 : decode cX11_plays 22 = .ok (.iconst 1, 1) := by decide +kernel
theorem dX11_plays_23 : decode cX11_plays 23 = .ok (.iaload, 1) := by decide +kernel
theorem dX11_plays_24 : decode cX11_plays 24 = .ok (.idiv, 1) := by decide +kernel
theorem dX11_plays_25 : decode cX11_plays 25 = .ok (.istore 4, 2) := by decide +kernel
theorem dX11_plays_27 : decode cX11_plays 27 = .ok (.aload_n 0, 1) := by decide +kernel
theorem dX11_plays_28 : decode cX11_plays 28 = .ok (.iload_n 1, 1) := by decide +kernel
theorem dX11_plays_29 : decode cX11_plays 29 = .ok (.iload_n 2, 1) := by decide +kernel
theorem dX11_plays_30 : decode cX11_plays 30 = .ok (.iload 4, 2) := by decide +kernel
theorem dX11_plays_32 : decode cX11_plays 32 = .ok (.idiv, 1) := by decide +kernel
theorem dX11_plays_33 : decode cX11_plays 33 = .ok (.aload_n 0, 1) := by decide +kernel
theorem dX11_plays_34 : decode cX11_plays 34 = .ok (.getfield 7, 3) := by decide +kernel
theorem dX11_plays_37 : decode cX11_plays 37 = .ok (.iconst 1, 1) := by decide +kernel
theorem dX11_plays_38 : decode cX11_plays 38 = .ok (.iaload, 1) := by decide +kernel
theorem dX11_plays_39 : decode cX11_plays 39 = .ok (.irem, 1) := by decide +kernel
theorem dX11_plays_40 : decode cX11_plays 40 = .ok (.iconst 1, 1) := by decide +kernel
theorem dX11_plays_41 : decode cX11_plays 41 = .ok (.iadd, 1) := by decide +kernel
theorem dX11_plays_42 : decode cX11_plays 42 = .ok (.invokevirtual 205, 3) := by decide +kernel
theorem dX11_plays_45 : decode cX11_plays 45 = .ok (.iinc 5 1, 3) := by decide +kernel
theorem dX11_plays_48 : decode cX11_plays 48 = .ok (.goto (-38), 3) := by decide +kernel
theorem dX11_plays_51 : decode cX11_plays 51 = .ok (.return_, 1) := by decide +kernel
def bX11_plays_10 (k10 : Nat → Int32 → Int32 → Int32 → Int32 → Int32 → gx_H → Option (Unit × gx_H)) (v0 : Nat) (v1 : Int32) (v2 : Int32) (v3 : Int32) (v4 : Int32) (v5 : Int32) (h : gx_H) : Option (Unit × gx_H) :=
  if v3 ≤ v5 then
    some ((), h)
  else
    (gx_fR h v0 9 0).bind fun a3 =>
    (gx_aI 0 h a3 (1 : Int32)).bind fun x4 =>
    (gx_dI v4 x4).bind fun z5 =>
    (gx_dI v2 z5).bind fun z6 =>
    (gx_fR h v0 9 0).bind fun a7 =>
    (gx_aI 0 h a7 (1 : Int32)).bind fun x8 =>
    (gx_rI z6 x8).bind fun z9 =>
    gx_bd (fX11_rollsTried v0 v1 (z9 + (1 : Int32)) h) fun u11 h10 =>
    k10 v0 v1 v2 v3 z5 (v5 + (1 : Int32)) h10
def fX11_plays_10 : Nat → Nat → Int32 → Int32 → Int32 → Int32 → Int32 → gx_H → Option (Unit × gx_H)
  | 0 => fun _ _ _ _ _ _ _ => none
  | n + 1 => bX11_plays_10 (fX11_plays_10 n)
def fX11_plays (v0 : Nat) (v1 : Int32) (v2 : Int32) (v3 : Int32) (h : gx_H) : Option (Unit × gx_H) :=
  (gx_isO h v0 9).bind fun _ =>
  gx_bd (fX11_rowsOf v0 v3 h) fun x2 h1 =>
  fX11_plays_10 gx_N v0 v1 v2 v3 x2 (0 : Int32) h1
set_option maxRecDepth 100000 in
set_option maxHeartbeats 4000000 in
theorem gbX11_plays_10 {E : gx_Env} {d : Nat}  (k10 : Nat → Int32 → Int32 → Int32 → Int32 → Int32 → gx_H → Option (Unit × gx_H)) (hk10 : ∀ (v0 : Nat) (v1 : Int32) (v2 : Int32) (v3 : Int32) (v4 : Int32) (v5 : Int32) (h : gx_H), gx_G E RX11 cX11_plays 6 none false (d + 5) 0 0 10 [some (.ref v0), some (.int v1), some (.int v2), some (.int v3), some (.int v4), some (.int v5)] [] h (fun _ : Unit => none) (k10 v0 v1 v2 v3 v4 v5 h))  : ∀ (v0 : Nat) (v1 : Int32) (v2 : Int32) (v3 : Int32) (v4 : Int32) (v5 : Int32) (h : gx_H), gx_G E RX11 cX11_plays 6 none false (d + 5) 0 0 10 [some (.ref v0), some (.int v1), some (.int v2), some (.int v3), some (.int v4), some (.int v5)] [] h (fun _ : Unit => none) (bX11_plays_10 k10 v0 v1 v2 v3 v4 v5 h) := by
  intro v0 v1 v2 v3 v4 v5 h
  unfold bX11_plays_10
  refine gx_iload dX11_plays_10 rfl ?_
  refine gx_iload_n 3 dX11_plays_12 rfl rfl ?_
  refine gx_icmp_ge 51 dX11_plays_13 (by decide) (fun _ => ?_) (fun _ => ?_)
  · exact gx_vret dX11_plays_51 rfl
  · refine gx_iload dX11_plays_16 rfl ?_
    refine gx_aload_n 0 dX11_plays_18 rfl rfl ?_
    refine gx_getR kf_RX11_7 dX11_plays_19 (fun a3 => ?_)
    refine gx_iconst (1 : Int32) dX11_plays_22 (by decide) ?_
    refine gx_iald dX11_plays_23 (fun x4 => ?_)
    refine gx_idiv dX11_plays_24 (fun z5 => ?_)
    refine gx_istore [some (.ref v0), some (.int v1), some (.int v2), some (.int v3), some (.int z5), some (.int v5)] dX11_plays_25 (by decide) rfl ?_
    refine gx_aload_n 0 dX11_plays_27 rfl rfl ?_
    refine gx_iload_n 1 dX11_plays_28 rfl rfl ?_
    refine gx_iload_n 2 dX11_plays_29 rfl rfl ?_
    refine gx_iload dX11_plays_30 rfl ?_
    refine gx_idiv dX11_plays_32 (fun z6 => ?_)
    refine gx_aload_n 0 dX11_plays_33 rfl rfl ?_
    refine gx_getR kf_RX11_7 dX11_plays_34 (fun a7 => ?_)
    refine gx_iconst (1 : Int32) dX11_plays_37 (by decide) ?_
    refine gx_iald dX11_plays_38 (fun x8 => ?_)
    refine gx_irem dX11_plays_39 (fun z9 => ?_)
    refine gx_iconst (1 : Int32) dX11_plays_40 (by decide) ?_
    refine gx_iadd dX11_plays_41 ?_
    refine gx_callV (ci := 9) (bc := 0) (bs := 0) (mc := 0) (ms := 0) (em' := (fun _ : Unit => none)) [.int v1, .int (z9 + (1 : Int32))] kc_RX11_205 rfl dX11_plays_42 rfl rfl (gx_w8 rfl) (fun x q => (gx_isO_of (by unfold fX11_rollsTried at q; exact q)).2) (fun _ _ q => okX11_rollsTried d q) (fun u11 h10 => ?_)
    refine gx_iinc (1 : Int32) [some (.ref v0), some (.int v1), some (.int v2), some (.int v3), some (.int z5), some (.int (v5 + (1 : Int32)))] dX11_plays_45 rfl (by decide) (by decide) rfl ?_
    refine gx_goto 10 dX11_plays_48 (by decide) ?_
    exact gx_sub (hk10 v0 v1 v2 v3 z5 (v5 + (1 : Int32)) h10) (And.intro rfl (And.intro rfl (And.intro rfl (And.intro rfl (And.intro rfl (And.intro rfl True.intro))))))
set_option maxRecDepth 100000 in
set_option maxHeartbeats 4000000 in
theorem gX11_plays_10 {E : gx_Env} {d : Nat}  : ∀ (n : Nat) (v0 : Nat) (v1 : Int32) (v2 : Int32) (v3 : Int32) (v4 : Int32) (v5 : Int32) (h : gx_H), gx_G E RX11 cX11_plays 6 none false (d + 5) 0 0 10 [some (.ref v0), some (.int v1), some (.int v2), some (.int v3), some (.int v4), some (.int v5)] [] h (fun _ : Unit => none) (fX11_plays_10 n v0 v1 v2 v3 v4 v5 h) := by
  intro n
  induction n with
  | zero => intro v0 v1 v2 v3 v4 v5 h; exact gx_none
  | succ n ih => exact gbX11_plays_10  (fX11_plays_10  n) ih
set_option maxRecDepth 100000 in
set_option maxHeartbeats 4000000 in
theorem geX11_plays {E : gx_Env} {d : Nat} (v0 : Nat) (v1 : Int32) (v2 : Int32) (v3 : Int32) (h : gx_H) : gx_G E RX11 cX11_plays 6 none false (d + 5) 0 0 0 [some (.ref v0), some (.int v1), some (.int v2), some (.int v3), none, none] [] h (fun _ : Unit => none) (fX11_plays v0 v1 v2 v3 h) := by
  unfold fX11_plays
  refine gx_bind fun _ _ => ?_
  refine gx_aload_n 0 dX11_plays_0 rfl rfl ?_
  refine gx_iload_n 3 dX11_plays_1 rfl rfl ?_
  refine gx_callV (ci := 9) (bc := 0) (bs := 0) (mc := 0) (ms := 0) (em' := (fun x : Int32 => some (.int x))) [.int v3] kc_RX11_202 rfl dX11_plays_2 rfl rfl (gx_w8 rfl) (fun x q => (gx_isO_of (by unfold fX11_rowsOf at q; exact q)).2) (fun _ _ q => okX11_rowsOf (d + 4) q) (fun x2 h1 => ?_)
  refine gx_istore [some (.ref v0), some (.int v1), some (.int v2), some (.int v3), some (.int x2), none] dX11_plays_5 (by decide) rfl ?_
  refine gx_iconst (0 : Int32) dX11_plays_7 (by decide) ?_
  refine gx_istore [some (.ref v0), some (.int v1), some (.int v2), some (.int v3), some (.int x2), some (.int (0 : Int32))] dX11_plays_8 (by decide) rfl ?_
  exact gx_sub (gX11_plays_10 gx_N v0 v1 v2 v3 x2 (0 : Int32) h1) (And.intro rfl (And.intro rfl (And.intro rfl (And.intro rfl (And.intro rfl (And.intro rfl True.intro))))))
theorem okX11_plays {E : gx_Env} (d : Nat) {v0 : Nat} {v1 : Int32} {v2 : Int32} {v3 : Int32} {h : gx_H} {r : Unit} {h1 : gx_H} (q : fX11_plays v0 v1 v2 v3 h = some (r, h1)) : gx_M E yX11_plays cX11_plays 6 none (d + 5) 0 0 [.ref v0, .int v1, .int v2, .int v3] h ((fun _ : Unit => none) r) h1 := gx_meth (y := yX11_plays) (cc := cX11_plays) (nL := 6) (em := (fun _ : Unit => none)) (ini := false) [.ref v0, .int v1, .int v2, .int v3] (by decide) (by simp [gx_sl]) (fun q => by cases q) (geX11_plays v0 v1 v2 v3 h) q
theorem dX11_told_0 : decode cX11_told 0 = .ok (.lload_n 1, 1) := by decide +kernel
theorem dX11_told_1 : decode cX11_told 1 = .ok (.lstore 5, 2) := by decide +kernel
theorem dX11_told_3 : decode cX11_told 3 = .ok (.lload_n 3, 1) := by decide +kernel
theorem dX11_told_4 : decode cX11_told 4 = .ok (.lstore 7, 2) := by decide +kernel
theorem dX11_told_6 : decode cX11_told 6 = .ok (.lload 7, 2) := by decide +kernel
theorem dX11_told_8 : decode cX11_told 8 = .ok (.lconst 0, 1) := by decide +kernel
theorem dX11_told_9 : decode cX11_told 9 = .ok (.lcmp, 1) := by decide +kernel
theorem dX11_told_10 : decode cX11_told 10 = .ok (.ifCond .eq 21, 3) := by decide +kernel
theorem dX11_told_13 : decode cX11_told 13 = .ok (.lload 5, 2) := by decide +kernel
theorem dX11_told_15 : decode cX11_told 15 = .ok (.lload 7, 2) := by decide +kernel
theorem dX11_told_17 : decode cX11_told 17 = .ok (.lrem, 1) := by decide +kernel
theorem dX11_told_18 : decode cX11_told 18 = .ok (.lstore 9, 2) := by decide +kernel
theorem dX11_told_20 : decode cX11_told 20 = .ok (.lload 7, 2) := by decide +kernel
theorem dX11_told_22 : decode cX11_told 22 = .ok (.lstore 5, 2) := by decide +kernel
theorem dX11_told_24 : decode cX11_told 24 = .ok (.lload 9, 2) := by decide +kernel
theorem dX11_told_26 : decode cX11_told 26 = .ok (.lstore 7, 2) := by decide +kernel
theorem dX11_told_28 : decode cX11_told 28 = .ok (.goto (-22), 3) := by decide +kernel
theorem dX11_told_31 : decode cX11_told 31 = .ok (.aload_n 0, 1) := by decide +kernel
theorem dX11_told_32 : decode cX11_told 32 = .ok (.lload_n 1, 1) := by decide +kernel
theorem dX11_told_33 : decode cX11_told 33 = .ok (.lload 5, 2) := by decide +kernel
theorem dX11_told_35 : decode cX11_told 35 = .ok (.ldiv, 1) := by decide +kernel
theorem dX11_told_36 : decode cX11_told 36 = .ok (.putfield 20, 3) := by decide +kernel
theorem dX11_told_39 : decode cX11_told 39 = .ok (.aload_n 0, 1) := by decide +kernel
theorem dX11_told_40 : decode cX11_told 40 = .ok (.lload_n 3, 1) := by decide +kernel
theorem dX11_told_41 : decode cX11_told 41 = .ok (.lload 5, 2) := by decide +kernel
theorem dX11_told_43 : decode cX11_told 43 = .ok (.ldiv, 1) := by decide +kernel
theorem dX11_told_44 : decode cX11_told 44 = .ok (.putfield 24, 3) := by decide +kernel
theorem dX11_told_47 : decode cX11_told 47 = .ok (.iconst 1, 1) := by decide +kernel
theorem dX11_told_48 : decode cX11_told 48 = .ok (.ireturn, 1) := by decide +kernel
def bX11_told_6 (k6 : Nat → Int64 → Int64 → Int64 → Int64 → gx_H → Option (Int32 × gx_H)) (v0 : Nat) (v1 : Int64) (v3 : Int64) (v5 : Int64) (v7 : Int64) (h : gx_H) : Option (Int32 × gx_H) :=
  if (lg_cmp v7 (0 : Int64)) = 0 then
    (gx_dJ v1 v5).bind fun z1 =>
    (gx_pF h v0 9 4 (.long z1)).bind fun h2 =>
    (gx_dJ v3 v5).bind fun z3 =>
    (gx_pF h2 v0 9 5 (.long z3)).bind fun h4 =>
    some ((1 : Int32), h4)
  else
    (gx_rJ v5 v7).bind fun z5 =>
    k6 v0 v1 v3 v7 z5 h
def fX11_told_6 : Nat → Nat → Int64 → Int64 → Int64 → Int64 → gx_H → Option (Int32 × gx_H)
  | 0 => fun _ _ _ _ _ _ => none
  | n + 1 => bX11_told_6 (fX11_told_6 n)
def fX11_told (v0 : Nat) (v1 : Int64) (v3 : Int64) (h : gx_H) : Option (Int32 × gx_H) :=
  (gx_isO h v0 9).bind fun _ =>
  fX11_told_6 gx_N v0 v1 v3 v1 v3 h
set_option maxRecDepth 100000 in
set_option maxHeartbeats 4000000 in
theorem gbX11_told_6 {E : gx_Env} {d : Nat}  (k6 : Nat → Int64 → Int64 → Int64 → Int64 → gx_H → Option (Int32 × gx_H)) (hk6 : ∀ (v0 : Nat) (v1 : Int64) (v3 : Int64) (v5 : Int64) (v7 : Int64) (h : gx_H), gx_G E RX11 cX11_told 11 (some .int) false d 0 0 6 [some (.ref v0), some (.long v1), none, some (.long v3), none, some (.long v5), none, some (.long v7), none, none, none] [] h (fun x : Int32 => some (.int x)) (k6 v0 v1 v3 v5 v7 h))  : ∀ (v0 : Nat) (v1 : Int64) (v3 : Int64) (v5 : Int64) (v7 : Int64) (h : gx_H), gx_G E RX11 cX11_told 11 (some .int) false d 0 0 6 [some (.ref v0), some (.long v1), none, some (.long v3), none, some (.long v5), none, some (.long v7), none, none, none] [] h (fun x : Int32 => some (.int x)) (bX11_told_6 k6 v0 v1 v3 v5 v7 h) := by
  intro v0 v1 v3 v5 v7 h
  unfold bX11_told_6
  refine gx_lload dX11_told_6 rfl ?_
  refine gx_lconst (0 : Int64) dX11_told_8 (by decide) ?_
  refine gx_lcmp dX11_told_9 ?_
  refine gx_if_eq 31 dX11_told_10 (by decide) (fun _ => ?_) (fun _ => ?_)
  · refine gx_aload_n 0 dX11_told_31 rfl rfl ?_
    refine gx_lload_n 1 dX11_told_32 rfl rfl ?_
    refine gx_lload dX11_told_33 rfl ?_
    refine gx_ldiv dX11_told_35 (fun z1 => ?_)
    refine gx_putJ kp_RX11_20 (fun q => by cases q) dX11_told_36 (fun h2 => ?_)
    refine gx_aload_n 0 dX11_told_39 rfl rfl ?_
    refine gx_lload_n 3 dX11_told_40 rfl rfl ?_
    refine gx_lload dX11_told_41 rfl ?_
    refine gx_ldiv dX11_told_43 (fun z3 => ?_)
    refine gx_putJ kp_RX11_24 (fun q => by cases q) dX11_told_44 (fun h4 => ?_)
    refine gx_iconst (1 : Int32) dX11_told_47 (by decide) ?_
    exact gx_iret dX11_told_48 rfl
  · refine gx_lload dX11_told_13 rfl ?_
    refine gx_lload dX11_told_15 rfl ?_
    refine gx_lrem dX11_told_17 (fun z5 => ?_)
    refine gx_lstore [some (.ref v0), some (.long v1), none, some (.long v3), none, some (.long v5), none, some (.long v7), none, some (.long z5), none] dX11_told_18 (by decide) rfl ?_
    refine gx_lload dX11_told_20 rfl ?_
    refine gx_lstore [some (.ref v0), some (.long v1), none, some (.long v3), none, some (.long v7), none, some (.long v7), none, some (.long z5), none] dX11_told_22 (by decide) rfl ?_
    refine gx_lload dX11_told_24 rfl ?_
    refine gx_lstore [some (.ref v0), some (.long v1), none, some (.long v3), none, some (.long v7), none, some (.long z5), none, some (.long z5), none] dX11_told_26 (by decide) rfl ?_
    refine gx_goto 6 dX11_told_28 (by decide) ?_
    exact gx_sub (hk6 v0 v1 v3 v7 z5 h) (And.intro rfl (And.intro rfl (And.intro rfl (And.intro rfl (And.intro rfl True.intro)))))
set_option maxRecDepth 100000 in
set_option maxHeartbeats 4000000 in
theorem gX11_told_6 {E : gx_Env} {d : Nat}  : ∀ (n : Nat) (v0 : Nat) (v1 : Int64) (v3 : Int64) (v5 : Int64) (v7 : Int64) (h : gx_H), gx_G E RX11 cX11_told 11 (some .int) false d 0 0 6 [some (.ref v0), some (.long v1), none, some (.long v3), none, some (.long v5), none, some (.long v7), none, none, none] [] h (fun x : Int32 => some (.int x)) (fX11_told_6 n v0 v1 v3 v5 v7 h) := by
  intro n
  induction n with
  | zero => intro v0 v1 v3 v5 v7 h; exact gx_none
  | succ n ih => exact gbX11_told_6  (fX11_told_6  n) ih
set_option maxRecDepth 100000 in
set_option maxHeartbeats 4000000 in
theorem geX11_told {E : gx_Env} {d : Nat} (v0 : Nat) (v1 : Int64) (v3 : Int64) (h : gx_H) : gx_G E RX11 cX11_told 11 (some .int) false d 0 0 0 [some (.ref v0), some (.long v1), none, some (.long v3), none, none, none, none, none, none, none] [] h (fun x : Int32 => some (.int x)) (fX11_told v0 v1 v3 h) := by
  unfold fX11_told
  refine gx_bind fun _ _ => ?_
  refine gx_lload_n 1 dX11_told_0 rfl rfl ?_
  refine gx_lstore [some (.ref v0), some (.long v1), none, some (.long v3), none, some (.long v1), none, none, none, none, none] dX11_told_1 (by decide) rfl ?_
  refine gx_lload_n 3 dX11_told_3 rfl rfl ?_
  refine gx_lstore [some (.ref v0), some (.long v1), none, some (.long v3), none, some (.long v1), none, some (.long v3), none, none, none] dX11_told_4 (by decide) rfl ?_
  exact gx_sub (gX11_told_6 gx_N v0 v1 v3 v1 v3 h) (And.intro rfl (And.intro rfl (And.intro rfl (And.intro rfl (And.intro rfl True.intro)))))
theorem okX11_told {E : gx_Env} (d : Nat) {v0 : Nat} {v1 : Int64} {v3 : Int64} {h : gx_H} {r : Int32} {h1 : gx_H} (q : fX11_told v0 v1 v3 h = some (r, h1)) : gx_M E yX11_told cX11_told 11 (some .int) d 0 0 [.ref v0, .long v1, .long v3] h ((fun x : Int32 => some (.int x)) r) h1 := gx_meth (y := yX11_told) (cc := cX11_told) (nL := 11) (em := (fun x : Int32 => some (.int x))) (ini := false) [.ref v0, .long v1, .long v3] (by decide) (by simp [gx_sl]) (fun q => by cases q) (geX11_told v0 v1 v3 h) q
theorem dX11_goes_0 : decode cX11_goes 0 = .ok (.aload_n 0, 1) := by decide +kernel
theorem dX11_goes_1 : decode cX11_goes 1 = .ok (.iload_n 1, 1) := by decide +kernel
theorem dX11_goes_2 : decode cX11_goes 2 = .ok (.invokevirtual 185, 3) := by decide +kernel
theorem dX11_goes_5 : decode cX11_goes 5 = .ok (.ifCond .eq 11, 3) := by decide +kernel
theorem dX11_goes_8 : decode cX11_goes 8 = .ok (.aload_n 0, 1) := by decide +kernel
theorem dX11_goes_9 : decode cX11_goes 9 = .ok (.iload_n 2, 1) := by decide +kernel
theorem dX11_goes_10 : decode cX11_goes 10 = .ok (.invokevirtual 188, 3) := by decide +kernel
theorem dX11_goes_13 : decode cX11_goes 13 = .ok (.ifCond .ne 10, 3) := by decide +kernel
theorem dX11_goes_16 : decode cX11_goes 16 = .ok (.aload_n 0, 1) := by decide +kernel
theorem dX11_goes_17 : decode cX11_goes 17 = .ok (.bipush (-2), 2) := by decide +kernel
theorem dX11_goes_19 : decode cX11_goes 19 = .ok (.invokevirtual 81, 3) := by decide +kernel
theorem dX11_goes_22 : decode cX11_goes 22 = .ok (.ireturn, 1) := by decide +kernel
theorem dX11_goes_23 : decode cX11_goes 23 = .ok (.aload_n 0, 1) := by decide +kernel
theorem dX11_goes_24 : decode cX11_goes 24 = .ok (.iconst 0, 1) := by decide +kernel
theorem dX11_goes_25 : decode cX11_goes 25 = .ok (.iload_n 1, 1) := by decide +kernel
theorem dX11_goes_26 : decode cX11_goes 26 = .ok (.invokevirtual 57, 3) := by decide +kernel
theorem dX11_goes_29 : decode cX11_goes 29 = .ok (.ifCond .eq 8, 3) := by decide +kernel
theorem dX11_goes_32 : decode cX11_goes 32 = .ok (.aload_n 0, 1) := by decide +kernel
theorem dX11_goes_33 : decode cX11_goes 33 = .ok (.invokevirtual 94, 3) := by decide +kernel
theorem dX11_goes_36 : decode cX11_goes 36 = .ok (.ireturn, 1) := by decide +kernel
theorem dX11_goes_37 : decode cX11_goes 37 = .ok (.aload_n 0, 1) := by decide +kernel
theorem dX11_goes_38 : decode cX11_goes 38 = .ok (.invokevirtual 208, 3) := by decide +kernel
theorem dX11_goes_41 : decode cX11_goes 41 = .ok (.aload_n 0, 1) := by decide +kernel
theorem dX11_goes_42 : decode cX11_goes 42 = .ok (.iload_n 1, 1) := by decide +kernel
theorem dX11_goes_43 : decode cX11_goes 43 = .ok (.iload_n 2, 1) := by decide +kernel
theorem dX11_goes_44 : decode cX11_goes 44 = .ok (.invokevirtual 205, 3) := by decide +kernel
theorem dX11_goes_47 : decode cX11_goes 47 = .ok (.aload_n 0, 1) := by decide +kernel
theorem dX11_goes_48 : decode cX11_goes 48 = .ok (.getfield 7, 3) := by decide +kernel
theorem dX11_goes_51 : decode cX11_goes 51 = .ok (.sipush 844, 3) := by decide +kernel
theorem dX11_goes_54 : decode cX11_goes 54 = .ok (.iload_n 1, 1) := by decide +kernel
theorem dX11_goes_55 : decode cX11_goes 55 = .ok (.iadd, 1) := by decide +kernel
theorem dX11_goes_56 : decode cX11_goes 56 = .ok (.iaload, 1) := by decide +kernel
theorem dX11_goes_57 : decode cX11_goes 57 = .ok (.ireturn, 1) := by decide +kernel
def fX11_goes_16 (v0 : Nat) (h : gx_H) : Option (Int32 × gx_H) :=
  gx_bd (fX11_bad v0 (-2 : Int32) h) fun x16 h15 =>
  some (x16, h15)
def fX11_goes (v0 : Nat) (v1 : Int32) (v2 : Int32) (h : gx_H) : Option (Int32 × gx_H) :=
  (gx_isO h v0 9).bind fun _ =>
  gx_bd (fX11_isPlayer v0 v1 h) fun x2 h1 =>
  if x2 = 0 then
    fX11_goes_16 v0 h1
  else
    gx_bd (fX11_isSide v0 v2 h1) fun x4 h3 =>
    if x4 = 0 then
      fX11_goes_16 v0 h3
    else
      gx_bd (fX11_isHome v0 (0 : Int32) v1 h3) fun x6 h5 =>
      if x6 = 0 then
        gx_bd (fX11_tries v0 h5) fun u8 h7 =>
        gx_bd (fX11_rollsTried v0 v1 v2 h7) fun u10 h9 =>
        (gx_fR h9 v0 9 0).bind fun a11 =>
        (gx_aI 0 h9 a11 ((844 : Int32) + v1)).bind fun x12 =>
        some (x12, h9)
      else
        gx_bd (fX11_no v0 h5) fun x14 h13 =>
        some (x14, h13)
set_option maxRecDepth 100000 in
set_option maxHeartbeats 4000000 in
theorem gX11_goes_16 {E : gx_Env} {d : Nat}  : ∀ (v0 : Nat) (h : gx_H), gx_G E RX11 cX11_goes 3 (some .int) false (d + 5) 0 0 16 [some (.ref v0), none, none] [] h (fun x : Int32 => some (.int x)) (fX11_goes_16 v0 h) := by
  intro v0 h
  unfold fX11_goes_16
  refine gx_aload_n 0 dX11_goes_16 rfl rfl ?_
  refine gx_bipush (-2 : Int32) dX11_goes_17 (by decide) ?_
  refine gx_callV (ci := 9) (bc := 0) (bs := 0) (mc := 0) (ms := 0) (em' := (fun x : Int32 => some (.int x))) [.int (-2 : Int32)] kc_RX11_81 rfl dX11_goes_19 rfl rfl (gx_w8 rfl) (fun x q => (gx_isO_of (by unfold fX11_bad at q; exact q)).2) (fun _ _ q => okX11_bad (d + 4) q) (fun x16 h15 => ?_)
  exact gx_iret dX11_goes_22 rfl
set_option maxRecDepth 100000 in
set_option maxHeartbeats 4000000 in
theorem geX11_goes {E : gx_Env} {d : Nat} (v0 : Nat) (v1 : Int32) (v2 : Int32) (h : gx_H) : gx_G E RX11 cX11_goes 3 (some .int) false (d + 5) 0 0 0 [some (.ref v0), some (.int v1), some (.int v2)] [] h (fun x : Int32 => some (.int x)) (fX11_goes v0 v1 v2 h) := by
  unfold fX11_goes
  refine gx_bind fun _ _ => ?_
  refine gx_aload_n 0 dX11_goes_0 rfl rfl ?_
  refine gx_iload_n 1 dX11_goes_1 rfl rfl ?_
  refine gx_callV (ci := 9) (bc := 0) (bs := 0) (mc := 0) (ms := 0) (em' := (fun x : Int32 => some (.int x))) [.int v1] kc_RX11_185 rfl dX11_goes_2 rfl rfl (gx_w8 rfl) (fun x q => (gx_isO_of (by unfold fX11_isPlayer at q; exact q)).2) (fun _ _ q => okX11_isPlayer (d + 3) q) (fun x2 h1 => ?_)
  refine gx_if_eq 16 dX11_goes_5 (by decide) (fun _ => ?_) (fun _ => ?_)
  · exact gx_sub (gX11_goes_16 v0 h1) (And.intro rfl True.intro)
  · refine gx_aload_n 0 dX11_goes_8 rfl rfl ?_
    refine gx_iload_n 2 dX11_goes_9 rfl rfl ?_
    refine gx_callV (ci := 9) (bc := 0) (bs := 0) (mc := 0) (ms := 0) (em' := (fun x : Int32 => some (.int x))) [.int v2] kc_RX11_188 rfl dX11_goes_10 rfl rfl (gx_w8 rfl) (fun x q => (gx_isO_of (by unfold fX11_isSide at q; exact q)).2) (fun _ _ q => okX11_isSide (d + 3) q) (fun x4 h3 => ?_)
    refine gx_if_ne 23 dX11_goes_13 (by decide) (fun _ => ?_) (fun _ => ?_)
    · refine gx_aload_n 0 dX11_goes_23 rfl rfl ?_
      refine gx_iconst (0 : Int32) dX11_goes_24 (by decide) ?_
      refine gx_iload_n 1 dX11_goes_25 rfl rfl ?_
      refine gx_callV (ci := 9) (bc := 0) (bs := 0) (mc := 0) (ms := 0) (em' := (fun x : Int32 => some (.int x))) [.int (0 : Int32), .int v1] kc_RX11_57 rfl dX11_goes_26 rfl rfl (gx_w8 rfl) (fun x q => (gx_isO_of (by unfold fX11_isHome at q; exact q)).2) (fun _ _ q => okX11_isHome (d + 4) q) (fun x6 h5 => ?_)
      refine gx_if_eq 37 dX11_goes_29 (by decide) (fun _ => ?_) (fun _ => ?_)
      · refine gx_aload_n 0 dX11_goes_37 rfl rfl ?_
        refine gx_callV (ci := 9) (bc := 0) (bs := 0) (mc := 0) (ms := 0) (em' := (fun _ : Unit => none)) [] kc_RX11_208 rfl dX11_goes_38 rfl rfl (gx_w8 rfl) (fun x q => (gx_isO_of (by unfold fX11_tries at q; exact q)).2) (fun _ _ q => okX11_tries (d + 4) q) (fun u8 h7 => ?_)
        refine gx_aload_n 0 dX11_goes_41 rfl rfl ?_
        refine gx_iload_n 1 dX11_goes_42 rfl rfl ?_
        refine gx_iload_n 2 dX11_goes_43 rfl rfl ?_
        refine gx_callV (ci := 9) (bc := 0) (bs := 0) (mc := 0) (ms := 0) (em' := (fun _ : Unit => none)) [.int v1, .int v2] kc_RX11_205 rfl dX11_goes_44 rfl rfl (gx_w8 rfl) (fun x q => (gx_isO_of (by unfold fX11_rollsTried at q; exact q)).2) (fun _ _ q => okX11_rollsTried d q) (fun u10 h9 => ?_)
        refine gx_aload_n 0 dX11_goes_47 rfl rfl ?_
        refine gx_getR kf_RX11_7 dX11_goes_48 (fun a11 => ?_)
        refine gx_sipush (844 : Int32) dX11_goes_51 (by decide) ?_
        refine gx_iload_n 1 dX11_goes_54 rfl rfl ?_
        refine gx_iadd dX11_goes_55 ?_
        refine gx_iald dX11_goes_56 (fun x12 => ?_)
        exact gx_iret dX11_goes_57 rfl
      · refine gx_aload_n 0 dX11_goes_32 rfl rfl ?_
        refine gx_callV (ci := 9) (bc := 0) (bs := 0) (mc := 0) (ms := 0) (em' := (fun x : Int32 => some (.int x))) [] kc_RX11_94 rfl dX11_goes_33 rfl rfl (gx_w8 rfl) (fun x q => (gx_isO_of (by unfold fX11_no at q; exact q)).2) (fun _ _ q => okX11_no (d + 4) q) (fun x14 h13 => ?_)
        exact gx_iret dX11_goes_36 rfl
    · exact gx_sub (gX11_goes_16 v0 h3) (And.intro rfl True.intro)
theorem okX11_goes {E : gx_Env} (d : Nat) {v0 : Nat} {v1 : Int32} {v2 : Int32} {h : gx_H} {r : Int32} {h1 : gx_H} (q : fX11_goes v0 v1 v2 h = some (r, h1)) : gx_M E yX11_goes cX11_goes 3 (some .int) (d + 5) 0 0 [.ref v0, .int v1, .int v2] h ((fun x : Int32 => some (.int x)) r) h1 := gx_meth (y := yX11_goes) (cc := cX11_goes) (nL := 3) (em := (fun x : Int32 => some (.int x))) (ini := false) [.ref v0, .int v1, .int v2] (by decide) (by simp [gx_sl]) (fun q => by cases q) (geX11_goes v0 v1 v2 h) q
theorem dX11_few_0 : decode cX11_few 0 = .ok (.aload_n 0, 1) := by decide +kernel
theorem dX11_few_1 : decode cX11_few 1 = .ok (.iload_n 1, 1) := by decide +kernel
theorem dX11_few_2 : decode cX11_few 2 = .ok (.invokevirtual 185, 3) := by decide +kernel
theorem dX11_few_5 : decode cX11_few 5 = .ok (.ifCond .eq 8, 3) := by decide +kernel
theorem dX11_few_8 : decode cX11_few 8 = .ok (.iload_n 2, 1) := by decide +kernel
theorem dX11_few_9 : decode cX11_few 9 = .ok (.iconst (-1), 1) := by decide +kernel
theorem dX11_few_10 : decode cX11_few 10 = .ok (.if_icmp .ge 10, 3) := by decide +kernel
theorem dX11_few_13 : decode cX11_few 13 = .ok (.aload_n 0, 1) := by decide +kernel
theorem dX11_few_14 : decode cX11_few 14 = .ok (.bipush (-10), 2) := by decide +kernel
theorem dX11_few_16 : decode cX11_few 16 = .ok (.invokevirtual 81, 3) := by decide +kernel
theorem dX11_few_19 : decode cX11_few 19 = .ok (.ireturn, 1) := by decide +kernel
theorem dX11_few_20 : decode cX11_few 20 = .ok (.iconst 0, 1) := by decide +kernel
theorem dX11_few_21 : decode cX11_few 21 = .ok (.istore_n 3, 1) := by decide +kernel
theorem dX11_few_22 : decode cX11_few 22 = .ok (.iload_n 3, 1) := by decide +kernel
theorem dX11_few_23 : decode cX11_few 23 = .ok (.iconst 5, 1) := by decide +kernel
theorem dX11_few_24 : decode cX11_few 24 = .ok (.if_icmp .gt 96, 3) := by decide +kernel
theorem dX11_few_27 : decode cX11_few 27 = .ok (.aload_n 0, 1) := by decide +kernel
theorem dX11_few_28 : decode cX11_few 28 = .ok (.iload_n 3, 1) := by decide +kernel
theorem dX11_few_29 : decode cX11_few 29 = .ok (.invokevirtual 202, 3) := by decide +kernel
theorem dX11_few_32 : decode cX11_few 32 = .ok (.istore 4, 2) := by decide +kernel
theorem dX11_few_34 : decode cX11_few 34 = .ok (.iconst 0, 1) := by decide +kernel
theorem dX11_few_35 : decode cX11_few 35 = .ok (.istore 5, 2) := by decide +kernel
theorem dX11_few_37 : decode cX11_few 37 = .ok (.iload 5, 2) := by decide +kernel
theorem dX11_few_39 : decode cX11_few 39 = .ok (.iload 4, 2) := by decide +kernel
theorem dX11_few_41 : decode cX11_few 41 = .ok (.if_icmp .ge 73, 3) := by decide +kernel
theorem dX11_few_44 : decode cX11_few 44 = .ok (.aload_n 0, 1) := by decide +kernel
theorem dX11_few_45 : decode cX11_few 45 = .ok (.invokevirtual 208, 3) := by decide +kernel
theorem dX11_few_48 : decode cX11_few 48 = .ok (.aload_n 0, 1) := by decide +kernel
theorem dX11_few_49 : decode cX11_few 49 = .ok (.iload_n 1, 1) := by decide +kernel
theorem dX11_few_50 : decode cX11_few 50 = .ok (.iload 5, 2) := by decide +kernel
theorem dX11_few_52 : decode cX11_few 52 = .ok (.iload_n 3, 1) := by decide +kernel
theorem dX11_few_53 : decode cX11_few 53 = .ok (.invokevirtual 211, 3) := by decide +kernel
theorem dX11_few_56 : decode cX11_few 56 = .ok (.aload_n 0, 1) := by decide +kernel
theorem dX11_few_57 : decode cX11_few 57 = .ok (.sipush 812, 3) := by decide +kernel
theorem dX11_few_60 : decode cX11_few 60 = .ok (.iload_n 1, 1) := by decide +kernel
theorem dX11_few_61 : decode cX11_few 61 = .ok (.invokevirtual 57, 3) := by decide +kernel
theorem dX11_few_64 : decode cX11_few 64 = .ok (.ifCond .eq 44, 3) := by decide +kernel
theorem dX11_few_67 : decode cX11_few 67 = .ok (.iload_n 2, 1) := by decide +kernel
theorem dX11_few_68 : decode cX11_few 68 = .ok (.iconst (-1), 1) := by decide +kernel
theorem dX11_few_69 : decode cX11_few 69 = .ok (.if_icmp .ne 7, 3) := by decide +kernel
theorem dX11_few_72 : decode cX11_few 72 = .ok (.iload_n 3, 1) := by decide +kernel
theorem dX11_few_73 : decode cX11_few 73 = .ok (.goto 34, 3) := by decide +kernel
theorem dX11_few_76 : decode cX11_few 76 = .ok (.iload_n 2, 1) := by decide +kernel
theorem dX11_few_77 : decode cX11_few 77 = .ok (.iload_n 3, 1) := by decide +kernel
theorem dX11_few_78 : decode cX11_few 78 = .ok (.if_icmp .ge 27, 3) := by decide +kernel
theorem dX11_few_81 : decode cX11_few 81 = .ok (.iload 5, 2) := by decide +kernel
theorem dX11_few_83 : decode cX11_few 83 = .ok (.aload_n 0, 1) := by decide +kernel
theorem dX11_few_84 : decode cX11_few 84 = .ok (.iload_n 3, 1) := by decide +kernel
theorem dX11_few_85 : decode cX11_few 85 = .ok (.iconst 1, 1) := by decide +kernel
theorem dX11_few_86 : decode cX11_few 86 = .ok (.isub, 1) := by decide +kernel
theorem dX11_few_87 : decode cX11_few 87 = .ok (.iload_n 2, 1) := by decide +kernel
theorem dX11_few_88 : decode cX11_few 88 = .ok (.isub, 1) := by decide +kernel
theorem dX11_few_89 : decode cX11_few 89 = .ok (.invokevirtual 202, 3) := by decide +kernel
theorem dX11_few_92 : decode cX11_few 92 = .ok (.idiv, 1) := by decide +kernel
theorem dX11_few_93 : decode cX11_few 93 = .ok (.aload_n 0, 1) := by decide +kernel
theorem dX11_few_94 : decode cX11_few 94 = .ok (.getfield 7, 3) := by decide +kernel
theorem dX11_few_97 : decode cX11_few 97 = .ok (.iconst 1, 1) := by decide +kernel
theorem dX11_few_98 : decode cX11_few 98 = .ok (.iaload, 1) := by decide +kernel
theorem dX11_few_99 : decode cX11_few 99 = .ok (.irem, 1) := by decide +kernel
theorem dX11_few_100 : decode cX11_few 100 = .ok (.iconst 1, 1) := by decide +kernel
theorem dX11_few_101 : decode cX11_few 101 = .ok (.iadd, 1) := by decide +kernel
theorem dX11_few_102 : decode cX11_few 102 = .ok (.goto 5, 3) := by decide +kernel
theorem dX11_few_105 : decode cX11_few 105 = .ok (.bipush (-5), 2) := by decide +kernel
theorem dX11_few_107 : decode cX11_few 107 = .ok (.ireturn, 1) := by decide +kernel
theorem dX11_few_108 : decode cX11_few 108 = .ok (.iinc 5 1, 3) := by decide +kernel
theorem dX11_few_111 : decode cX11_few 111 = .ok (.goto (-74), 3) := by decide +kernel
theorem dX11_few_114 : decode cX11_few 114 = .ok (.iinc 3 1, 3) := by decide +kernel
theorem dX11_few_117 : decode cX11_few 117 = .ok (.goto (-95), 3) := by decide +kernel
theorem dX11_few_120 : decode cX11_few 120 = .ok (.bipush (-6), 2) := by decide +kernel
theorem dX11_few_122 : decode cX11_few 122 = .ok (.ireturn, 1) := by decide +kernel
def fX11_few_13 (v0 : Nat) (h : gx_H) : Option (Int32 × gx_H) :=
  gx_bd (fX11_bad v0 (-10 : Int32) h) fun x4 h3 =>
  some (x4, h3)
def fX11_few_107 (s0 : Int32) (h : gx_H) : Option (Int32 × gx_H) :=
  some (s0, h)
def bX11_few_37 (k22 : Nat → Int32 → Int32 → Int32 → gx_H → Option (Int32 × gx_H)) (k37 : Nat → Int32 → Int32 → Int32 → Int32 → Int32 → gx_H → Option (Int32 × gx_H)) (v0 : Nat) (v1 : Int32) (v2 : Int32) (v3 : Int32) (v4 : Int32) (v5 : Int32) (h : gx_H) : Option (Int32 × gx_H) :=
  if v4 ≤ v5 then
    k22 v0 v1 v2 (v3 + (1 : Int32)) h
  else
    gx_bd (fX11_tries v0 h) fun u8 h7 =>
    gx_bd (fX11_plays v0 v1 v5 v3 h7) fun u10 h9 =>
    gx_bd (fX11_isHome v0 (812 : Int32) v1 h9) fun x12 h11 =>
    if x12 = 0 then
      k37 v0 v1 v2 v3 v4 (v5 + (1 : Int32)) h11
    else
      if v2 = (-1 : Int32) then
        fX11_few_107 v3 h11
      else
        if v3 ≤ v2 then
          fX11_few_107 (-5 : Int32) h11
        else
          gx_bd (fX11_rowsOf v0 ((v3 - (1 : Int32)) - v2) h11) fun x14 h13 =>
          (gx_dI v5 x14).bind fun z15 =>
          (gx_fR h13 v0 9 0).bind fun a16 =>
          (gx_aI 0 h13 a16 (1 : Int32)).bind fun x17 =>
          (gx_rI z15 x17).bind fun z18 =>
          fX11_few_107 (z18 + (1 : Int32)) h13
def fX11_few_37 (k22 : Nat → Int32 → Int32 → Int32 → gx_H → Option (Int32 × gx_H)) : Nat → Nat → Int32 → Int32 → Int32 → Int32 → Int32 → gx_H → Option (Int32 × gx_H)
  | 0 => fun _ _ _ _ _ _ _ => none
  | n + 1 => bX11_few_37 k22 (fX11_few_37 k22 n)
def bX11_few_22 (k22 : Nat → Int32 → Int32 → Int32 → gx_H → Option (Int32 × gx_H)) (v0 : Nat) (v1 : Int32) (v2 : Int32) (v3 : Int32) (h : gx_H) : Option (Int32 × gx_H) :=
  if (5 : Int32) < v3 then
    some ((-6 : Int32), h)
  else
    gx_bd (fX11_rowsOf v0 v3 h) fun x6 h5 =>
    fX11_few_37 k22 gx_N v0 v1 v2 v3 x6 (0 : Int32) h5
def fX11_few_22 : Nat → Nat → Int32 → Int32 → Int32 → gx_H → Option (Int32 × gx_H)
  | 0 => fun _ _ _ _ _ => none
  | n + 1 => bX11_few_22 (fX11_few_22 n)
def fX11_few (v0 : Nat) (v1 : Int32) (v2 : Int32) (h : gx_H) : Option (Int32 × gx_H) :=
  (gx_isO h v0 9).bind fun _ =>
  gx_bd (fX11_isPlayer v0 v1 h) fun x2 h1 =>
  if x2 = 0 then
    fX11_few_13 v0 h1
  else
    if (-1 : Int32) ≤ v2 then
      fX11_few_22 gx_N v0 v1 v2 (0 : Int32) h1
    else
      fX11_few_13 v0 h1
set_option maxRecDepth 100000 in
set_option maxHeartbeats 4000000 in
theorem gX11_few_13 {E : gx_Env} {d : Nat}  : ∀ (v0 : Nat) (h : gx_H), gx_G E RX11 cX11_few 6 (some .int) false (d + 6) 0 0 13 [some (.ref v0), none, none, none, none, none] [] h (fun x : Int32 => some (.int x)) (fX11_few_13 v0 h) := by
  intro v0 h
  unfold fX11_few_13
  refine gx_aload_n 0 dX11_few_13 rfl rfl ?_
  refine gx_bipush (-10 : Int32) dX11_few_14 (by decide) ?_
  refine gx_callV (ci := 9) (bc := 0) (bs := 0) (mc := 0) (ms := 0) (em' := (fun x : Int32 => some (.int x))) [.int (-10 : Int32)] kc_RX11_81 rfl dX11_few_16 rfl rfl (gx_w8 rfl) (fun x q => (gx_isO_of (by unfold fX11_bad at q; exact q)).2) (fun _ _ q => okX11_bad (d + 5) q) (fun x4 h3 => ?_)
  exact gx_iret dX11_few_19 rfl
set_option maxRecDepth 100000 in
set_option maxHeartbeats 4000000 in
theorem gX11_few_107 {E : gx_Env} {d : Nat}  : ∀ (s0 : Int32) (h : gx_H), gx_G E RX11 cX11_few 6 (some .int) false (d + 6) 0 0 107 [none, none, none, none, none, none] [.int s0] h (fun x : Int32 => some (.int x)) (fX11_few_107 s0 h) := by
  intro s0 h
  unfold fX11_few_107
  exact gx_iret dX11_few_107 rfl
set_option maxRecDepth 100000 in
set_option maxHeartbeats 4000000 in
theorem gbX11_few_37 {E : gx_Env} {d : Nat} (k22 : Nat → Int32 → Int32 → Int32 → gx_H → Option (Int32 × gx_H)) (hk22 : ∀ (v0 : Nat) (v1 : Int32) (v2 : Int32) (v3 : Int32) (h : gx_H), gx_G E RX11 cX11_few 6 (some .int) false (d + 6) 0 0 22 [some (.ref v0), some (.int v1), some (.int v2), some (.int v3), none, none] [] h (fun x : Int32 => some (.int x)) (k22 v0 v1 v2 v3 h))  (k37 : Nat → Int32 → Int32 → Int32 → Int32 → Int32 → gx_H → Option (Int32 × gx_H)) (hk37 : ∀ (v0 : Nat) (v1 : Int32) (v2 : Int32) (v3 : Int32) (v4 : Int32) (v5 : Int32) (h : gx_H), gx_G E RX11 cX11_few 6 (some .int) false (d + 6) 0 0 37 [some (.ref v0), some (.int v1), some (.int v2), some (.int v3), some (.int v4), some (.int v5)] [] h (fun x : Int32 => some (.int x)) (k37 v0 v1 v2 v3 v4 v5 h))  : ∀ (v0 : Nat) (v1 : Int32) (v2 : Int32) (v3 : Int32) (v4 : Int32) (v5 : Int32) (h : gx_H), gx_G E RX11 cX11_few 6 (some .int) false (d + 6) 0 0 37 [some (.ref v0), some (.int v1), some (.int v2), some (.int v3), some (.int v4), some (.int v5)] [] h (fun x : Int32 => some (.int x)) (bX11_few_37 k22 k37 v0 v1 v2 v3 v4 v5 h) := by
  intro v0 v1 v2 v3 v4 v5 h
  unfold bX11_few_37
  refine gx_iload dX11_few_37 rfl ?_
  refine gx_iload dX11_few_39 rfl ?_
  refine gx_icmp_ge 114 dX11_few_41 (by decide) (fun _ => ?_) (fun _ => ?_)
  · refine gx_iinc (1 : Int32) [some (.ref v0), some (.int v1), some (.int v2), some (.int (v3 + (1 : Int32))), some (.int v4), some (.int v5)] dX11_few_114 rfl (by decide) (by decide) rfl ?_
    refine gx_goto 22 dX11_few_117 (by decide) ?_
    exact gx_sub (hk22 v0 v1 v2 (v3 + (1 : Int32)) h) (And.intro rfl (And.intro rfl (And.intro rfl (And.intro rfl True.intro))))
  · refine gx_aload_n 0 dX11_few_44 rfl rfl ?_
    refine gx_callV (ci := 9) (bc := 0) (bs := 0) (mc := 0) (ms := 0) (em' := (fun _ : Unit => none)) [] kc_RX11_208 rfl dX11_few_45 rfl rfl (gx_w8 rfl) (fun x q => (gx_isO_of (by unfold fX11_tries at q; exact q)).2) (fun _ _ q => okX11_tries (d + 5) q) (fun u8 h7 => ?_)
    refine gx_aload_n 0 dX11_few_48 rfl rfl ?_
    refine gx_iload_n 1 dX11_few_49 rfl rfl ?_
    refine gx_iload dX11_few_50 rfl ?_
    refine gx_iload_n 3 dX11_few_52 rfl rfl ?_
    refine gx_callV (ci := 9) (bc := 0) (bs := 0) (mc := 0) (ms := 0) (em' := (fun _ : Unit => none)) [.int v1, .int v5, .int v3] kc_RX11_211 rfl dX11_few_53 rfl rfl (gx_w8 rfl) (fun x q => (gx_isO_of (by unfold fX11_plays at q; exact q)).2) (fun _ _ q => okX11_plays d q) (fun u10 h9 => ?_)
    refine gx_aload_n 0 dX11_few_56 rfl rfl ?_
    refine gx_sipush (812 : Int32) dX11_few_57 (by decide) ?_
    refine gx_iload_n 1 dX11_few_60 rfl rfl ?_
    refine gx_callV (ci := 9) (bc := 0) (bs := 0) (mc := 0) (ms := 0) (em' := (fun x : Int32 => some (.int x))) [.int (812 : Int32), .int v1] kc_RX11_57 rfl dX11_few_61 rfl rfl (gx_w8 rfl) (fun x q => (gx_isO_of (by unfold fX11_isHome at q; exact q)).2) (fun _ _ q => okX11_isHome (d + 5) q) (fun x12 h11 => ?_)
    refine gx_if_eq 108 dX11_few_64 (by decide) (fun _ => ?_) (fun _ => ?_)
    · refine gx_iinc (1 : Int32) [some (.ref v0), some (.int v1), some (.int v2), some (.int v3), some (.int v4), some (.int (v5 + (1 : Int32)))] dX11_few_108 rfl (by decide) (by decide) rfl ?_
      refine gx_goto 37 dX11_few_111 (by decide) ?_
      exact gx_sub (hk37 v0 v1 v2 v3 v4 (v5 + (1 : Int32)) h11) (And.intro rfl (And.intro rfl (And.intro rfl (And.intro rfl (And.intro rfl (And.intro rfl True.intro))))))
    · refine gx_iload_n 2 dX11_few_67 rfl rfl ?_
      refine gx_iconst (-1 : Int32) dX11_few_68 (by decide) ?_
      refine gx_icmp_ne 76 dX11_few_69 (by decide) (fun _ => ?_) (fun _ => ?_)
      · refine gx_iload_n 2 dX11_few_76 rfl rfl ?_
        refine gx_iload_n 3 dX11_few_77 rfl rfl ?_
        refine gx_icmp_ge 105 dX11_few_78 (by decide) (fun _ => ?_) (fun _ => ?_)
        · refine gx_bipush (-5 : Int32) dX11_few_105 (by decide) ?_
          exact gx_sub (gX11_few_107 (-5 : Int32) h11) True.intro
        · refine gx_iload dX11_few_81 rfl ?_
          refine gx_aload_n 0 dX11_few_83 rfl rfl ?_
          refine gx_iload_n 3 dX11_few_84 rfl rfl ?_
          refine gx_iconst (1 : Int32) dX11_few_85 (by decide) ?_
          refine gx_isub dX11_few_86 ?_
          refine gx_iload_n 2 dX11_few_87 rfl rfl ?_
          refine gx_isub dX11_few_88 ?_
          refine gx_callV (ci := 9) (bc := 0) (bs := 0) (mc := 0) (ms := 0) (em' := (fun x : Int32 => some (.int x))) [.int ((v3 - (1 : Int32)) - v2)] kc_RX11_202 rfl dX11_few_89 rfl rfl (gx_w8 rfl) (fun x q => (gx_isO_of (by unfold fX11_rowsOf at q; exact q)).2) (fun _ _ q => okX11_rowsOf (d + 5) q) (fun x14 h13 => ?_)
          refine gx_idiv dX11_few_92 (fun z15 => ?_)
          refine gx_aload_n 0 dX11_few_93 rfl rfl ?_
          refine gx_getR kf_RX11_7 dX11_few_94 (fun a16 => ?_)
          refine gx_iconst (1 : Int32) dX11_few_97 (by decide) ?_
          refine gx_iald dX11_few_98 (fun x17 => ?_)
          refine gx_irem dX11_few_99 (fun z18 => ?_)
          refine gx_iconst (1 : Int32) dX11_few_100 (by decide) ?_
          refine gx_iadd dX11_few_101 ?_
          refine gx_goto 107 dX11_few_102 (by decide) ?_
          exact gx_sub (gX11_few_107 (z18 + (1 : Int32)) h13) True.intro
      · refine gx_iload_n 3 dX11_few_72 rfl rfl ?_
        refine gx_goto 107 dX11_few_73 (by decide) ?_
        exact gx_sub (gX11_few_107 v3 h11) True.intro
set_option maxRecDepth 100000 in
set_option maxHeartbeats 4000000 in
theorem gX11_few_37 {E : gx_Env} {d : Nat} (k22 : Nat → Int32 → Int32 → Int32 → gx_H → Option (Int32 × gx_H)) (hk22 : ∀ (v0 : Nat) (v1 : Int32) (v2 : Int32) (v3 : Int32) (h : gx_H), gx_G E RX11 cX11_few 6 (some .int) false (d + 6) 0 0 22 [some (.ref v0), some (.int v1), some (.int v2), some (.int v3), none, none] [] h (fun x : Int32 => some (.int x)) (k22 v0 v1 v2 v3 h))  : ∀ (n : Nat) (v0 : Nat) (v1 : Int32) (v2 : Int32) (v3 : Int32) (v4 : Int32) (v5 : Int32) (h : gx_H), gx_G E RX11 cX11_few 6 (some .int) false (d + 6) 0 0 37 [some (.ref v0), some (.int v1), some (.int v2), some (.int v3), some (.int v4), some (.int v5)] [] h (fun x : Int32 => some (.int x)) (fX11_few_37 k22 n v0 v1 v2 v3 v4 v5 h) := by
  intro n
  induction n with
  | zero => intro v0 v1 v2 v3 v4 v5 h; exact gx_none
  | succ n ih => exact gbX11_few_37 k22 hk22 (fX11_few_37 k22 n) ih
set_option maxRecDepth 100000 in
set_option maxHeartbeats 4000000 in
theorem gbX11_few_22 {E : gx_Env} {d : Nat}  (k22 : Nat → Int32 → Int32 → Int32 → gx_H → Option (Int32 × gx_H)) (hk22 : ∀ (v0 : Nat) (v1 : Int32) (v2 : Int32) (v3 : Int32) (h : gx_H), gx_G E RX11 cX11_few 6 (some .int) false (d + 6) 0 0 22 [some (.ref v0), some (.int v1), some (.int v2), some (.int v3), none, none] [] h (fun x : Int32 => some (.int x)) (k22 v0 v1 v2 v3 h))  : ∀ (v0 : Nat) (v1 : Int32) (v2 : Int32) (v3 : Int32) (h : gx_H), gx_G E RX11 cX11_few 6 (some .int) false (d + 6) 0 0 22 [some (.ref v0), some (.int v1), some (.int v2), some (.int v3), none, none] [] h (fun x : Int32 => some (.int x)) (bX11_few_22 k22 v0 v1 v2 v3 h) := by
  intro v0 v1 v2 v3 h
  unfold bX11_few_22
  refine gx_iload_n 3 dX11_few_22 rfl rfl ?_
  refine gx_iconst (5 : Int32) dX11_few_23 (by decide) ?_
  refine gx_icmp_gt 120 dX11_few_24 (by decide) (fun _ => ?_) (fun _ => ?_)
  · refine gx_bipush (-6 : Int32) dX11_few_120 (by decide) ?_
    exact gx_iret dX11_few_122 rfl
  · refine gx_aload_n 0 dX11_few_27 rfl rfl ?_
    refine gx_iload_n 3 dX11_few_28 rfl rfl ?_
    refine gx_callV (ci := 9) (bc := 0) (bs := 0) (mc := 0) (ms := 0) (em' := (fun x : Int32 => some (.int x))) [.int v3] kc_RX11_202 rfl dX11_few_29 rfl rfl (gx_w8 rfl) (fun x q => (gx_isO_of (by unfold fX11_rowsOf at q; exact q)).2) (fun _ _ q => okX11_rowsOf (d + 5) q) (fun x6 h5 => ?_)
    refine gx_istore [some (.ref v0), some (.int v1), some (.int v2), some (.int v3), some (.int x6), none] dX11_few_32 (by decide) rfl ?_
    refine gx_iconst (0 : Int32) dX11_few_34 (by decide) ?_
    refine gx_istore [some (.ref v0), some (.int v1), some (.int v2), some (.int v3), some (.int x6), some (.int (0 : Int32))] dX11_few_35 (by decide) rfl ?_
    exact gx_sub (gX11_few_37 k22 hk22 gx_N v0 v1 v2 v3 x6 (0 : Int32) h5) (And.intro rfl (And.intro rfl (And.intro rfl (And.intro rfl (And.intro rfl (And.intro rfl True.intro))))))
set_option maxRecDepth 100000 in
set_option maxHeartbeats 4000000 in
theorem gX11_few_22 {E : gx_Env} {d : Nat}  : ∀ (n : Nat) (v0 : Nat) (v1 : Int32) (v2 : Int32) (v3 : Int32) (h : gx_H), gx_G E RX11 cX11_few 6 (some .int) false (d + 6) 0 0 22 [some (.ref v0), some (.int v1), some (.int v2), some (.int v3), none, none] [] h (fun x : Int32 => some (.int x)) (fX11_few_22 n v0 v1 v2 v3 h) := by
  intro n
  induction n with
  | zero => intro v0 v1 v2 v3 h; exact gx_none
  | succ n ih => exact gbX11_few_22  (fX11_few_22  n) ih
set_option maxRecDepth 100000 in
set_option maxHeartbeats 4000000 in
theorem geX11_few {E : gx_Env} {d : Nat} (v0 : Nat) (v1 : Int32) (v2 : Int32) (h : gx_H) : gx_G E RX11 cX11_few 6 (some .int) false (d + 6) 0 0 0 [some (.ref v0), some (.int v1), some (.int v2), none, none, none] [] h (fun x : Int32 => some (.int x)) (fX11_few v0 v1 v2 h) := by
  unfold fX11_few
  refine gx_bind fun _ _ => ?_
  refine gx_aload_n 0 dX11_few_0 rfl rfl ?_
  refine gx_iload_n 1 dX11_few_1 rfl rfl ?_
  refine gx_callV (ci := 9) (bc := 0) (bs := 0) (mc := 0) (ms := 0) (em' := (fun x : Int32 => some (.int x))) [.int v1] kc_RX11_185 rfl dX11_few_2 rfl rfl (gx_w8 rfl) (fun x q => (gx_isO_of (by unfold fX11_isPlayer at q; exact q)).2) (fun _ _ q => okX11_isPlayer (d + 4) q) (fun x2 h1 => ?_)
  refine gx_if_eq 13 dX11_few_5 (by decide) (fun _ => ?_) (fun _ => ?_)
  · exact gx_sub (gX11_few_13 v0 h1) (And.intro rfl True.intro)
  · refine gx_iload_n 2 dX11_few_8 rfl rfl ?_
    refine gx_iconst (-1 : Int32) dX11_few_9 (by decide) ?_
    refine gx_icmp_ge 20 dX11_few_10 (by decide) (fun _ => ?_) (fun _ => ?_)
    · refine gx_iconst (0 : Int32) dX11_few_20 (by decide) ?_
      refine gx_istore_n 3 [some (.ref v0), some (.int v1), some (.int v2), some (.int (0 : Int32)), none, none] dX11_few_21 rfl (by decide) rfl ?_
      exact gx_sub (gX11_few_22 gx_N v0 v1 v2 (0 : Int32) h1) (And.intro rfl (And.intro rfl (And.intro rfl (And.intro rfl True.intro))))
    · exact gx_sub (gX11_few_13 v0 h1) (And.intro rfl True.intro)
theorem okX11_few {E : gx_Env} (d : Nat) {v0 : Nat} {v1 : Int32} {v2 : Int32} {h : gx_H} {r : Int32} {h1 : gx_H} (q : fX11_few v0 v1 v2 h = some (r, h1)) : gx_M E yX11_few cX11_few 6 (some .int) (d + 6) 0 0 [.ref v0, .int v1, .int v2] h ((fun x : Int32 => some (.int x)) r) h1 := gx_meth (y := yX11_few) (cc := cX11_few) (nL := 6) (em := (fun x : Int32 => some (.int x))) (ini := false) [.ref v0, .int v1, .int v2] (by decide) (by simp [gx_sl]) (fun q => by cases q) (geX11_few v0 v1 v2 h) q
theorem dX11_home_0 : decode cX11_home 0 = .ok (.aload_n 0, 1) := by decide +kernel
theorem dX11_home_1 : decode cX11_home 1 = .ok (.iload_n 1, 1) := by decide +kernel
theorem dX11_home_2 : decode cX11_home 2 = .ok (.invokevirtual 185, 3) := by decide +kernel
theorem dX11_home_5 : decode cX11_home 5 = .ok (.ifCond .eq 15, 3) := by decide +kernel
theorem dX11_home_8 : decode cX11_home 8 = .ok (.iload_n 2, 1) := by decide +kernel
theorem dX11_home_9 : decode cX11_home 9 = .ok (.i2l, 1) := by decide +kernel
theorem dX11_home_10 : decode cX11_home 10 = .ok (.lconst 0, 1) := by decide +kernel
theorem dX11_home_11 : decode cX11_home 11 = .ok (.ldc2_w 88, 3) := by decide +kernel
theorem dX11_home_14 : decode cX11_home 14 = .ok (.invokestatic 39, 3) := by decide +kernel
theorem dX11_home_17 : decode cX11_home 17 = .ok (.ifCond .ne 10, 3) := by decide +kernel
theorem dX11_home_20 : decode cX11_home 20 = .ok (.aload_n 0, 1) := by decide +kernel
theorem dX11_home_21 : decode cX11_home 21 = .ok (.bipush (-2), 2) := by decide +kernel
theorem dX11_home_23 : decode cX11_home 23 = .ok (.invokevirtual 81, 3) := by decide +kernel
theorem dX11_home_26 : decode cX11_home 26 = .ok (.ireturn, 1) := by decide +kernel
theorem dX11_home_27 : decode cX11_home 27 = .ok (.iconst 0, 1) := by decide +kernel
theorem dX11_home_28 : decode cX11_home 28 = .ok (.istore_n 3, 1) := by decide +kernel
theorem dX11_home_29 : decode cX11_home 29 = .ok (.aload_n 0, 1) := by decide +kernel
theorem dX11_home_30 : decode cX11_home 30 = .ok (.iload_n 2, 1) := by decide +kernel
theorem dX11_home_31 : decode cX11_home 31 = .ok (.invokevirtual 202, 3) := by decide +kernel
theorem dX11_home_34 : decode cX11_home 34 = .ok (.istore 4, 2) := by decide +kernel
theorem dX11_home_36 : decode cX11_home 36 = .ok (.iconst 0, 1) := by decide +kernel
theorem dX11_home_37 : decode cX11_home 37 = .ok (.istore 5, 2) := by decide +kernel
theorem dX11_home_39 : decode cX11_home 39 = .ok (.iload 5, 2) := by decide +kernel
theorem dX11_home_41 : decode cX11_home 41 = .ok (.iload 4, 2) := by decide +kernel
theorem dX11_home_43 : decode cX11_home 43 = .ok (.if_icmp .ge 40, 3) := by decide +kernel
theorem dX11_home_46 : decode cX11_home 46 = .ok (.aload_n 0, 1) := by decide +kernel
theorem dX11_home_47 : decode cX11_home 47 = .ok (.invokevirtual 208, 3) := by decide +kernel
theorem dX11_home_50 : decode cX11_home 50 = .ok (.aload_n 0, 1) := by decide +kernel
theorem dX11_home_51 : decode cX11_home 51 = .ok (.iload_n 1, 1) := by decide +kernel
theorem dX11_home_52 : decode cX11_home 52 = .ok (.iload 5, 2) := by decide +kernel
theorem dX11_home_54 : decode cX11_home 54 = .ok (.iload_n 2, 1) := by decide +kernel
theorem dX11_home_55 : decode cX11_home 55 = .ok (.invokevirtual 211, 3) := by decide +kernel
theorem dX11_home_58 : decode cX11_home 58 = .ok (.iload_n 3, 1) := by decide +kernel
theorem dX11_home_59 : decode cX11_home 59 = .ok (.aload_n 0, 1) := by decide +kernel
theorem dX11_home_60 : decode cX11_home 60 = .ok (.sipush 812, 3) := by decide +kernel
theorem dX11_home_63 : decode cX11_home 63 = .ok (.iload_n 1, 1) := by decide +kernel
theorem dX11_home_64 : decode cX11_home 64 = .ok (.invokevirtual 57, 3) := by decide +kernel
theorem dX11_home_67 : decode cX11_home 67 = .ok (.ifCond .eq 7, 3) := by decide +kernel
theorem dX11_home_70 : decode cX11_home 70 = .ok (.iconst 1, 1) := by decide +kernel
theorem dX11_home_71 : decode cX11_home 71 = .ok (.goto 4, 3) := by decide +kernel
theorem dX11_home_74 : decode cX11_home 74 = .ok (.iconst 0, 1) := by decide +kernel
theorem dX11_home_75 : decode cX11_home 75 = .ok (.iadd, 1) := by decide +kernel
theorem dX11_home_76 : decode cX11_home 76 = .ok (.istore_n 3, 1) := by decide +kernel
theorem dX11_home_77 : decode cX11_home 77 = .ok (.iinc 5 1, 3) := by decide +kernel
theorem dX11_home_80 : decode cX11_home 80 = .ok (.goto (-41), 3) := by decide +kernel
theorem dX11_home_83 : decode cX11_home 83 = .ok (.aload_n 0, 1) := by decide +kernel
theorem dX11_home_84 : decode cX11_home 84 = .ok (.iload_n 3, 1) := by decide +kernel
theorem dX11_home_85 : decode cX11_home 85 = .ok (.i2l, 1) := by decide +kernel
theorem dX11_home_86 : decode cX11_home 86 = .ok (.iload 4, 2) := by decide +kernel
theorem dX11_home_88 : decode cX11_home 88 = .ok (.i2l, 1) := by decide +kernel
theorem dX11_home_89 : decode cX11_home 89 = .ok (.invokevirtual 214, 3) := by decide +kernel
theorem dX11_home_92 : decode cX11_home 92 = .ok (.ireturn, 1) := by decide +kernel
def fX11_home_20 (v0 : Nat) (h : gx_H) : Option (Int32 × gx_H) :=
  gx_bd (fX11_bad v0 (-2 : Int32) h) fun x8 h7 =>
  some (x8, h7)
def fX11_home_75 (k39 : Nat → Int32 → Int32 → Int32 → Int32 → Int32 → gx_H → Option (Int32 × gx_H)) (v0 : Nat) (v1 : Int32) (v2 : Int32) (v4 : Int32) (v5 : Int32) (s0 : Int32) (s1 : Int32) (h : gx_H) : Option (Int32 × gx_H) :=
  k39 v0 v1 v2 (s0 + s1) v4 (v5 + (1 : Int32)) h
def bX11_home_39 (k39 : Nat → Int32 → Int32 → Int32 → Int32 → Int32 → gx_H → Option (Int32 × gx_H)) (v0 : Nat) (v1 : Int32) (v2 : Int32) (v3 : Int32) (v4 : Int32) (v5 : Int32) (h : gx_H) : Option (Int32 × gx_H) :=
  if v4 ≤ v5 then
    gx_bd (fX11_told v0 ((v3).toInt64) ((v4).toInt64) h) fun x10 h9 =>
    some (x10, h9)
  else
    gx_bd (fX11_tries v0 h) fun u12 h11 =>
    gx_bd (fX11_plays v0 v1 v5 v2 h11) fun u14 h13 =>
    gx_bd (fX11_isHome v0 (812 : Int32) v1 h13) fun x16 h15 =>
    if x16 = 0 then
      fX11_home_75 k39 v0 v1 v2 v4 v5 v3 (0 : Int32) h15
    else
      fX11_home_75 k39 v0 v1 v2 v4 v5 v3 (1 : Int32) h15
def fX11_home_39 : Nat → Nat → Int32 → Int32 → Int32 → Int32 → Int32 → gx_H → Option (Int32 × gx_H)
  | 0 => fun _ _ _ _ _ _ _ => none
  | n + 1 => bX11_home_39 (fX11_home_39 n)
def fX11_home (v0 : Nat) (v1 : Int32) (v2 : Int32) (h : gx_H) : Option (Int32 × gx_H) :=
  (gx_isO h v0 9).bind fun _ =>
  gx_bd (fX11_isPlayer v0 v1 h) fun x2 h1 =>
  if x2 = 0 then
    fX11_home_20 v0 h1
  else
    gx_bd (fX11_in ((v2).toInt64) (0 : Int64) (5 : Int64) h1) fun x4 h3 =>
    if x4 = 0 then
      fX11_home_20 v0 h3
    else
      gx_bd (fX11_rowsOf v0 v2 h3) fun x6 h5 =>
      fX11_home_39 gx_N v0 v1 v2 (0 : Int32) x6 (0 : Int32) h5
set_option maxRecDepth 100000 in
set_option maxHeartbeats 4000000 in
theorem gX11_home_20 {E : gx_Env} {d : Nat}  : ∀ (v0 : Nat) (h : gx_H), gx_G E RX11 cX11_home 6 (some .int) false (d + 6) 0 0 20 [some (.ref v0), none, none, none, none, none] [] h (fun x : Int32 => some (.int x)) (fX11_home_20 v0 h) := by
  intro v0 h
  unfold fX11_home_20
  refine gx_aload_n 0 dX11_home_20 rfl rfl ?_
  refine gx_bipush (-2 : Int32) dX11_home_21 (by decide) ?_
  refine gx_callV (ci := 9) (bc := 0) (bs := 0) (mc := 0) (ms := 0) (em' := (fun x : Int32 => some (.int x))) [.int (-2 : Int32)] kc_RX11_81 rfl dX11_home_23 rfl rfl (gx_w8 rfl) (fun x q => (gx_isO_of (by unfold fX11_bad at q; exact q)).2) (fun _ _ q => okX11_bad (d + 5) q) (fun x8 h7 => ?_)
  exact gx_iret dX11_home_26 rfl
set_option maxRecDepth 100000 in
set_option maxHeartbeats 4000000 in
theorem gX11_home_75 {E : gx_Env} {d : Nat} (k39 : Nat → Int32 → Int32 → Int32 → Int32 → Int32 → gx_H → Option (Int32 × gx_H)) (hk39 : ∀ (v0 : Nat) (v1 : Int32) (v2 : Int32) (v3 : Int32) (v4 : Int32) (v5 : Int32) (h : gx_H), gx_G E RX11 cX11_home 6 (some .int) false (d + 6) 0 0 39 [some (.ref v0), some (.int v1), some (.int v2), some (.int v3), some (.int v4), some (.int v5)] [] h (fun x : Int32 => some (.int x)) (k39 v0 v1 v2 v3 v4 v5 h))  : ∀ (v0 : Nat) (v1 : Int32) (v2 : Int32) (v4 : Int32) (v5 : Int32) (s0 : Int32) (s1 : Int32) (h : gx_H), gx_G E RX11 cX11_home 6 (some .int) false (d + 6) 0 0 75 [some (.ref v0), some (.int v1), some (.int v2), none, some (.int v4), some (.int v5)] [.int s1, .int s0] h (fun x : Int32 => some (.int x)) (fX11_home_75 k39 v0 v1 v2 v4 v5 s0 s1 h) := by
  intro v0 v1 v2 v4 v5 s0 s1 h
  unfold fX11_home_75
  refine gx_iadd dX11_home_75 ?_
  refine gx_istore_n 3 [some (.ref v0), some (.int v1), some (.int v2), some (.int (s0 + s1)), some (.int v4), some (.int v5)] dX11_home_76 rfl (by decide) rfl ?_
  refine gx_iinc (1 : Int32) [some (.ref v0), some (.int v1), some (.int v2), some (.int (s0 + s1)), some (.int v4), some (.int (v5 + (1 : Int32)))] dX11_home_77 rfl (by decide) (by decide) rfl ?_
  refine gx_goto 39 dX11_home_80 (by decide) ?_
  exact gx_sub (hk39 v0 v1 v2 (s0 + s1) v4 (v5 + (1 : Int32)) h) (And.intro rfl (And.intro rfl (And.intro rfl (And.intro rfl (And.intro rfl (And.intro rfl True.intro))))))
set_option maxRecDepth 100000 in
set_option maxHeartbeats 4000000 in
theorem gbX11_home_39 {E : gx_Env} {d : Nat}  (k39 : Nat → Int32 → Int32 → Int32 → Int32 → Int32 → gx_H → Option (Int32 × gx_H)) (hk39 : ∀ (v0 : Nat) (v1 : Int32) (v2 : Int32) (v3 : Int32) (v4 : Int32) (v5 : Int32) (h : gx_H), gx_G E RX11 cX11_home 6 (some .int) false (d + 6) 0 0 39 [some (.ref v0), some (.int v1), some (.int v2), some (.int v3), some (.int v4), some (.int v5)] [] h (fun x : Int32 => some (.int x)) (k39 v0 v1 v2 v3 v4 v5 h))  : ∀ (v0 : Nat) (v1 : Int32) (v2 : Int32) (v3 : Int32) (v4 : Int32) (v5 : Int32) (h : gx_H), gx_G E RX11 cX11_home 6 (some .int) false (d + 6) 0 0 39 [some (.ref v0), some (.int v1), some (.int v2), some (.int v3), some (.int v4), some (.int v5)] [] h (fun x : Int32 => some (.int x)) (bX11_home_39 k39 v0 v1 v2 v3 v4 v5 h) := by
  intro v0 v1 v2 v3 v4 v5 h
  unfold bX11_home_39
  refine gx_iload dX11_home_39 rfl ?_
  refine gx_iload dX11_home_41 rfl ?_
  refine gx_icmp_ge 83 dX11_home_43 (by decide) (fun _ => ?_) (fun _ => ?_)
  · refine gx_aload_n 0 dX11_home_83 rfl rfl ?_
    refine gx_iload_n 3 dX11_home_84 rfl rfl ?_
    refine gx_i2l dX11_home_85 ?_
    refine gx_iload dX11_home_86 rfl ?_
    refine gx_i2l dX11_home_88 ?_
    refine gx_callV (ci := 9) (bc := 0) (bs := 0) (mc := 0) (ms := 0) (em' := (fun x : Int32 => some (.int x))) [.long ((v3).toInt64), .long ((v4).toInt64)] kc_RX11_214 rfl dX11_home_89 rfl rfl (gx_w8 rfl) (fun x q => (gx_isO_of (by unfold fX11_told at q; exact q)).2) (fun _ _ q => okX11_told (d + 5) q) (fun x10 h9 => ?_)
    exact gx_iret dX11_home_92 rfl
  · refine gx_aload_n 0 dX11_home_46 rfl rfl ?_
    refine gx_callV (ci := 9) (bc := 0) (bs := 0) (mc := 0) (ms := 0) (em' := (fun _ : Unit => none)) [] kc_RX11_208 rfl dX11_home_47 rfl rfl (gx_w8 rfl) (fun x q => (gx_isO_of (by unfold fX11_tries at q; exact q)).2) (fun _ _ q => okX11_tries (d + 5) q) (fun u12 h11 => ?_)
    refine gx_aload_n 0 dX11_home_50 rfl rfl ?_
    refine gx_iload_n 1 dX11_home_51 rfl rfl ?_
    refine gx_iload dX11_home_52 rfl ?_
    refine gx_iload_n 2 dX11_home_54 rfl rfl ?_
    refine gx_callV (ci := 9) (bc := 0) (bs := 0) (mc := 0) (ms := 0) (em' := (fun _ : Unit => none)) [.int v1, .int v5, .int v2] kc_RX11_211 rfl dX11_home_55 rfl rfl (gx_w8 rfl) (fun x q => (gx_isO_of (by unfold fX11_plays at q; exact q)).2) (fun _ _ q => okX11_plays d q) (fun u14 h13 => ?_)
    refine gx_iload_n 3 dX11_home_58 rfl rfl ?_
    refine gx_aload_n 0 dX11_home_59 rfl rfl ?_
    refine gx_sipush (812 : Int32) dX11_home_60 (by decide) ?_
    refine gx_iload_n 1 dX11_home_63 rfl rfl ?_
    refine gx_callV (ci := 9) (bc := 0) (bs := 0) (mc := 0) (ms := 0) (em' := (fun x : Int32 => some (.int x))) [.int (812 : Int32), .int v1] kc_RX11_57 rfl dX11_home_64 rfl rfl (gx_w8 rfl) (fun x q => (gx_isO_of (by unfold fX11_isHome at q; exact q)).2) (fun _ _ q => okX11_isHome (d + 5) q) (fun x16 h15 => ?_)
    refine gx_if_eq 74 dX11_home_67 (by decide) (fun _ => ?_) (fun _ => ?_)
    · refine gx_iconst (0 : Int32) dX11_home_74 (by decide) ?_
      exact gx_sub (gX11_home_75 k39 hk39 v0 v1 v2 v4 v5 v3 (0 : Int32) h15) (And.intro rfl (And.intro rfl (And.intro rfl (And.intro rfl (And.intro rfl True.intro)))))
    · refine gx_iconst (1 : Int32) dX11_home_70 (by decide) ?_
      refine gx_goto 75 dX11_home_71 (by decide) ?_
      exact gx_sub (gX11_home_75 k39 hk39 v0 v1 v2 v4 v5 v3 (1 : Int32) h15) (And.intro rfl (And.intro rfl (And.intro rfl (And.intro rfl (And.intro rfl True.intro)))))
set_option maxRecDepth 100000 in
set_option maxHeartbeats 4000000 in
theorem gX11_home_39 {E : gx_Env} {d : Nat}  : ∀ (n : Nat) (v0 : Nat) (v1 : Int32) (v2 : Int32) (v3 : Int32) (v4 : Int32) (v5 : Int32) (h : gx_H), gx_G E RX11 cX11_home 6 (some .int) false (d + 6) 0 0 39 [some (.ref v0), some (.int v1), some (.int v2), some (.int v3), some (.int v4), some (.int v5)] [] h (fun x : Int32 => some (.int x)) (fX11_home_39 n v0 v1 v2 v3 v4 v5 h) := by
  intro n
  induction n with
  | zero => intro v0 v1 v2 v3 v4 v5 h; exact gx_none
  | succ n ih => exact gbX11_home_39  (fX11_home_39  n) ih
set_option maxRecDepth 100000 in
set_option maxHeartbeats 4000000 in
theorem geX11_home {E : gx_Env} {d : Nat} (v0 : Nat) (v1 : Int32) (v2 : Int32) (h : gx_H) : gx_G E RX11 cX11_home 6 (some .int) false (d + 6) 0 0 0 [some (.ref v0), some (.int v1), some (.int v2), none, none, none] [] h (fun x : Int32 => some (.int x)) (fX11_home v0 v1 v2 h) := by
  unfold fX11_home
  refine gx_bind fun _ _ => ?_
  refine gx_aload_n 0 dX11_home_0 rfl rfl ?_
  refine gx_iload_n 1 dX11_home_1 rfl rfl ?_
  refine gx_callV (ci := 9) (bc := 0) (bs := 0) (mc := 0) (ms := 0) (em' := (fun x : Int32 => some (.int x))) [.int v1] kc_RX11_185 rfl dX11_home_2 rfl rfl (gx_w8 rfl) (fun x q => (gx_isO_of (by unfold fX11_isPlayer at q; exact q)).2) (fun _ _ q => okX11_isPlayer (d + 4) q) (fun x2 h1 => ?_)
  refine gx_if_eq 20 dX11_home_5 (by decide) (fun _ => ?_) (fun _ => ?_)
  · exact gx_sub (gX11_home_20 v0 h1) (And.intro rfl True.intro)
  · refine gx_iload_n 2 dX11_home_8 rfl rfl ?_
    refine gx_i2l dX11_home_9 ?_
    refine gx_lconst (0 : Int64) dX11_home_10 (by decide) ?_
    refine gx_ldc2 kk_RX11_88 dX11_home_11 ?_
    refine gx_callS (bc := 0) (bs := 0) (mc := 0) (ms := 0) (em' := (fun x : Int32 => some (.int x))) [.long ((v2).toInt64), .long (0 : Int64), .long (5 : Int64)] kc_RX11_39 dX11_home_14 rfl rfl (gx_w8 rfl) (fun _ _ q => okX11_in (d + 5) q) (fun x4 h3 => ?_)
    refine gx_if_ne 27 dX11_home_17 (by decide) (fun _ => ?_) (fun _ => ?_)
    · refine gx_iconst (0 : Int32) dX11_home_27 (by decide) ?_
      refine gx_istore_n 3 [some (.ref v0), some (.int v1), some (.int v2), some (.int (0 : Int32)), none, none] dX11_home_28 rfl (by decide) rfl ?_
      refine gx_aload_n 0 dX11_home_29 rfl rfl ?_
      refine gx_iload_n 2 dX11_home_30 rfl rfl ?_
      refine gx_callV (ci := 9) (bc := 0) (bs := 0) (mc := 0) (ms := 0) (em' := (fun x : Int32 => some (.int x))) [.int v2] kc_RX11_202 rfl dX11_home_31 rfl rfl (gx_w8 rfl) (fun x q => (gx_isO_of (by unfold fX11_rowsOf at q; exact q)).2) (fun _ _ q => okX11_rowsOf (d + 5) q) (fun x6 h5 => ?_)
      refine gx_istore [some (.ref v0), some (.int v1), some (.int v2), some (.int (0 : Int32)), some (.int x6), none] dX11_home_34 (by decide) rfl ?_
      refine gx_iconst (0 : Int32) dX11_home_36 (by decide) ?_
      refine gx_istore [some (.ref v0), some (.int v1), some (.int v2), some (.int (0 : Int32)), some (.int x6), some (.int (0 : Int32))] dX11_home_37 (by decide) rfl ?_
      exact gx_sub (gX11_home_39 gx_N v0 v1 v2 (0 : Int32) x6 (0 : Int32) h5) (And.intro rfl (And.intro rfl (And.intro rfl (And.intro rfl (And.intro rfl (And.intro rfl True.intro))))))
    · exact gx_sub (gX11_home_20 v0 h3) (And.intro rfl True.intro)
theorem okX11_home {E : gx_Env} (d : Nat) {v0 : Nat} {v1 : Int32} {v2 : Int32} {h : gx_H} {r : Int32} {h1 : gx_H} (q : fX11_home v0 v1 v2 h = some (r, h1)) : gx_M E yX11_home cX11_home 6 (some .int) (d + 6) 0 0 [.ref v0, .int v1, .int v2] h ((fun x : Int32 => some (.int x)) r) h1 := gx_meth (y := yX11_home) (cc := cX11_home) (nL := 6) (em := (fun x : Int32 => some (.int x))) (ini := false) [.ref v0, .int v1, .int v2] (by decide) (by simp [gx_sl]) (fun q => by cases q) (geX11_home v0 v1 v2 h) q
theorem dX11_mean_0 : decode cX11_mean 0 = .ok (.aload_n 0, 1) := by decide +kernel
theorem dX11_mean_1 : decode cX11_mean 1 = .ok (.iload_n 1, 1) := by decide +kernel
theorem dX11_mean_2 : decode cX11_mean 2 = .ok (.invokevirtual 185, 3) := by decide +kernel
theorem dX11_mean_5 : decode cX11_mean 5 = .ok (.ifCond .eq 15, 3) := by decide +kernel
theorem dX11_mean_8 : decode cX11_mean 8 = .ok (.iload_n 2, 1) := by decide +kernel
theorem dX11_mean_9 : decode cX11_mean 9 = .ok (.i2l, 1) := by decide +kernel
theorem dX11_mean_10 : decode cX11_mean 10 = .ok (.lconst 0, 1) := by decide +kernel
theorem dX11_mean_11 : decode cX11_mean 11 = .ok (.ldc2_w 88, 3) := by decide +kernel
theorem dX11_mean_14 : decode cX11_mean 14 = .ok (.invokestatic 39, 3) := by decide +kernel
theorem dX11_mean_17 : decode cX11_mean 17 = .ok (.ifCond .ne 10, 3) := by decide +kernel
theorem dX11_mean_20 : decode cX11_mean 20 = .ok (.aload_n 0, 1) := by decide +kernel
theorem dX11_mean_21 : decode cX11_mean 21 = .ok (.bipush (-2), 2) := by decide +kernel
theorem dX11_mean_23 : decode cX11_mean 23 = .ok (.invokevirtual 81, 3) := by decide +kernel
theorem dX11_mean_26 : decode cX11_mean 26 = .ok (.ireturn, 1) := by decide +kernel
theorem dX11_mean_27 : decode cX11_mean 27 = .ok (.iconst 0, 1) := by decide +kernel
theorem dX11_mean_28 : decode cX11_mean 28 = .ok (.istore_n 3, 1) := by decide +kernel
theorem dX11_mean_29 : decode cX11_mean 29 = .ok (.aload_n 0, 1) := by decide +kernel
theorem dX11_mean_30 : decode cX11_mean 30 = .ok (.iload_n 2, 1) := by decide +kernel
theorem dX11_mean_31 : decode cX11_mean 31 = .ok (.invokevirtual 202, 3) := by decide +kernel
theorem dX11_mean_34 : decode cX11_mean 34 = .ok (.istore 4, 2) := by decide +kernel
theorem dX11_mean_36 : decode cX11_mean 36 = .ok (.iconst 0, 1) := by decide +kernel
theorem dX11_mean_37 : decode cX11_mean 37 = .ok (.istore 5, 2) := by decide +kernel
theorem dX11_mean_39 : decode cX11_mean 39 = .ok (.iload 5, 2) := by decide +kernel
theorem dX11_mean_41 : decode cX11_mean 41 = .ok (.iload 4, 2) := by decide +kernel
theorem dX11_mean_43 : decode cX11_mean 43 = .ok (.if_icmp .ge 34, 3) := by decide +kernel
theorem dX11_mean_46 : decode cX11_mean 46 = .ok (.aload_n 0, 1) := by decide +kernel
theorem dX11_mean_47 : decode cX11_mean 47 = .ok (.invokevirtual 208, 3) := by decide +kernel
theorem dX11_mean_50 : decode cX11_mean 50 = .ok (.aload_n 0, 1) := by decide +kernel
theorem dX11_mean_51 : decode cX11_mean 51 = .ok (.iload_n 1, 1) := by decide +kernel
theorem dX11_mean_52 : decode cX11_mean 52 = .ok (.iload 5, 2) := by decide +kernel
theorem dX11_mean_54 : decode cX11_mean 54 = .ok (.iload_n 2, 1) := by decide +kernel
theorem dX11_mean_55 : decode cX11_mean 55 = .ok (.invokevirtual 211, 3) := by decide +kernel
theorem dX11_mean_58 : decode cX11_mean 58 = .ok (.iload_n 3, 1) := by decide +kernel
theorem dX11_mean_59 : decode cX11_mean 59 = .ok (.aload_n 0, 1) := by decide +kernel
theorem dX11_mean_60 : decode cX11_mean 60 = .ok (.getfield 7, 3) := by decide +kernel
theorem dX11_mean_63 : decode cX11_mean 63 = .ok (.sipush 844, 3) := by decide +kernel
theorem dX11_mean_66 : decode cX11_mean 66 = .ok (.iload_n 1, 1) := by decide +kernel
theorem dX11_mean_67 : decode cX11_mean 67 = .ok (.iadd, 1) := by decide +kernel
theorem dX11_mean_68 : decode cX11_mean 68 = .ok (.iaload, 1) := by decide +kernel
theorem dX11_mean_69 : decode cX11_mean 69 = .ok (.iadd, 1) := by decide +kernel
theorem dX11_mean_70 : decode cX11_mean 70 = .ok (.istore_n 3, 1) := by decide +kernel
theorem dX11_mean_71 : decode cX11_mean 71 = .ok (.iinc 5 1, 3) := by decide +kernel
theorem dX11_mean_74 : decode cX11_mean 74 = .ok (.goto (-35), 3) := by decide +kernel
theorem dX11_mean_77 : decode cX11_mean 77 = .ok (.aload_n 0, 1) := by decide +kernel
theorem dX11_mean_78 : decode cX11_mean 78 = .ok (.iload_n 3, 1) := by decide +kernel
theorem dX11_mean_79 : decode cX11_mean 79 = .ok (.i2l, 1) := by decide +kernel
theorem dX11_mean_80 : decode cX11_mean 80 = .ok (.iload 4, 2) := by decide +kernel
theorem dX11_mean_82 : decode cX11_mean 82 = .ok (.i2l, 1) := by decide +kernel
theorem dX11_mean_83 : decode cX11_mean 83 = .ok (.invokevirtual 214, 3) := by decide +kernel
theorem dX11_mean_86 : decode cX11_mean 86 = .ok (.ireturn, 1) := by decide +kernel
def fX11_mean_20 (v0 : Nat) (h : gx_H) : Option (Int32 × gx_H) :=
  gx_bd (fX11_bad v0 (-2 : Int32) h) fun x8 h7 =>
  some (x8, h7)
def bX11_mean_39 (k39 : Nat → Int32 → Int32 → Int32 → Int32 → Int32 → gx_H → Option (Int32 × gx_H)) (v0 : Nat) (v1 : Int32) (v2 : Int32) (v3 : Int32) (v4 : Int32) (v5 : Int32) (h : gx_H) : Option (Int32 × gx_H) :=
  if v4 ≤ v5 then
    gx_bd (fX11_told v0 ((v3).toInt64) ((v4).toInt64) h) fun x10 h9 =>
    some (x10, h9)
  else
    gx_bd (fX11_tries v0 h) fun u12 h11 =>
    gx_bd (fX11_plays v0 v1 v5 v2 h11) fun u14 h13 =>
    (gx_fR h13 v0 9 0).bind fun a15 =>
    (gx_aI 0 h13 a15 ((844 : Int32) + v1)).bind fun x16 =>
    k39 v0 v1 v2 (v3 + x16) v4 (v5 + (1 : Int32)) h13
def fX11_mean_39 : Nat → Nat → Int32 → Int32 → Int32 → Int32 → Int32 → gx_H → Option (Int32 × gx_H)
  | 0 => fun _ _ _ _ _ _ _ => none
  | n + 1 => bX11_mean_39 (fX11_mean_39 n)
def fX11_mean (v0 : Nat) (v1 : Int32) (v2 : Int32) (h : gx_H) : Option (Int32 × gx_H) :=
  (gx_isO h v0 9).bind fun _ =>
  gx_bd (fX11_isPlayer v0 v1 h) fun x2 h1 =>
  if x2 = 0 then
    fX11_mean_20 v0 h1
  else
    gx_bd (fX11_in ((v2).toInt64) (0 : Int64) (5 : Int64) h1) fun x4 h3 =>
    if x4 = 0 then
      fX11_mean_20 v0 h3
    else
      gx_bd (fX11_rowsOf v0 v2 h3) fun x6 h5 =>
      fX11_mean_39 gx_N v0 v1 v2 (0 : Int32) x6 (0 : Int32) h5
set_option maxRecDepth 100000 in
set_option maxHeartbeats 4000000 in
theorem gX11_mean_20 {E : gx_Env} {d : Nat}  : ∀ (v0 : Nat) (h : gx_H), gx_G E RX11 cX11_mean 6 (some .int) false (d + 6) 0 0 20 [some (.ref v0), none, none, none, none, none] [] h (fun x : Int32 => some (.int x)) (fX11_mean_20 v0 h) := by
  intro v0 h
  unfold fX11_mean_20
  refine gx_aload_n 0 dX11_mean_20 rfl rfl ?_
  refine gx_bipush (-2 : Int32) dX11_mean_21 (by decide) ?_
  refine gx_callV (ci := 9) (bc := 0) (bs := 0) (mc := 0) (ms := 0) (em' := (fun x : Int32 => some (.int x))) [.int (-2 : Int32)] kc_RX11_81 rfl dX11_mean_23 rfl rfl (gx_w8 rfl) (fun x q => (gx_isO_of (by unfold fX11_bad at q; exact q)).2) (fun _ _ q => okX11_bad (d + 5) q) (fun x8 h7 => ?_)
  exact gx_iret dX11_mean_26 rfl
set_option maxRecDepth 100000 in
set_option maxHeartbeats 4000000 in
theorem gbX11_mean_39 {E : gx_Env} {d : Nat}  (k39 : Nat → Int32 → Int32 → Int32 → Int32 → Int32 → gx_H → Option (Int32 × gx_H)) (hk39 : ∀ (v0 : Nat) (v1 : Int32) (v2 : Int32) (v3 : Int32) (v4 : Int32) (v5 : Int32) (h : gx_H), gx_G E RX11 cX11_mean 6 (some .int) false (d + 6) 0 0 39 [some (.ref v0), some (.int v1), some (.int v2), some (.int v3), some (.int v4), some (.int v5)] [] h (fun x : Int32 => some (.int x)) (k39 v0 v1 v2 v3 v4 v5 h))  : ∀ (v0 : Nat) (v1 : Int32) (v2 : Int32) (v3 : Int32) (v4 : Int32) (v5 : Int32) (h : gx_H), gx_G E RX11 cX11_mean 6 (some .int) false (d + 6) 0 0 39 [some (.ref v0), some (.int v1), some (.int v2), some (.int v3), some (.int v4), some (.int v5)] [] h (fun x : Int32 => some (.int x)) (bX11_mean_39 k39 v0 v1 v2 v3 v4 v5 h) := by
  intro v0 v1 v2 v3 v4 v5 h
  unfold bX11_mean_39
  refine gx_iload dX11_mean_39 rfl ?_
  refine gx_iload dX11_mean_41 rfl ?_
  refine gx_icmp_ge 77 dX11_mean_43 (by decide) (fun _ => ?_) (fun _ => ?_)
  · refine gx_aload_n 0 dX11_mean_77 rfl rfl ?_
    refine gx_iload_n 3 dX11_mean_78 rfl rfl ?_
    refine gx_i2l dX11_mean_79 ?_
    refine gx_iload dX11_mean_80 rfl ?_
    refine gx_i2l dX11_mean_82 ?_
    refine gx_callV (ci := 9) (bc := 0) (bs := 0) (mc := 0) (ms := 0) (em' := (fun x : Int32 => some (.int x))) [.long ((v3).toInt64), .long ((v4).toInt64)] kc_RX11_214 rfl dX11_mean_83 rfl rfl (gx_w8 rfl) (fun x q => (gx_isO_of (by unfold fX11_told at q; exact q)).2) (fun _ _ q => okX11_told (d + 5) q) (fun x10 h9 => ?_)
    exact gx_iret dX11_mean_86 rfl
  · refine gx_aload_n 0 dX11_mean_46 rfl rfl ?_
    refine gx_callV (ci := 9) (bc := 0) (bs := 0) (mc := 0) (ms := 0) (em' := (fun _ : Unit => none)) [] kc_RX11_208 rfl dX11_mean_47 rfl rfl (gx_w8 rfl) (fun x q => (gx_isO_of (by unfold fX11_tries at q; exact q)).2) (fun _ _ q => okX11_tries (d + 5) q) (fun u12 h11 => ?_)
    refine gx_aload_n 0 dX11_mean_50 rfl rfl ?_
    refine gx_iload_n 1 dX11_mean_51 rfl rfl ?_
    refine gx_iload dX11_mean_52 rfl ?_
    refine gx_iload_n 2 dX11_mean_54 rfl rfl ?_
    refine gx_callV (ci := 9) (bc := 0) (bs := 0) (mc := 0) (ms := 0) (em' := (fun _ : Unit => none)) [.int v1, .int v5, .int v2] kc_RX11_211 rfl dX11_mean_55 rfl rfl (gx_w8 rfl) (fun x q => (gx_isO_of (by unfold fX11_plays at q; exact q)).2) (fun _ _ q => okX11_plays d q) (fun u14 h13 => ?_)
    refine gx_iload_n 3 dX11_mean_58 rfl rfl ?_
    refine gx_aload_n 0 dX11_mean_59 rfl rfl ?_
    refine gx_getR kf_RX11_7 dX11_mean_60 (fun a15 => ?_)
    refine gx_sipush (844 : Int32) dX11_mean_63 (by decide) ?_
    refine gx_iload_n 1 dX11_mean_66 rfl rfl ?_
    refine gx_iadd dX11_mean_67 ?_
    refine gx_iald dX11_mean_68 (fun x16 => ?_)
    refine gx_iadd dX11_mean_69 ?_
    refine gx_istore_n 3 [some (.ref v0), some (.int v1), some (.int v2), some (.int (v3 + x16)), some (.int v4), some (.int v5)] dX11_mean_70 rfl (by decide) rfl ?_
    refine gx_iinc (1 : Int32) [some (.ref v0), some (.int v1), some (.int v2), some (.int (v3 + x16)), some (.int v4), some (.int (v5 + (1 : Int32)))] dX11_mean_71 rfl (by decide) (by decide) rfl ?_
    refine gx_goto 39 dX11_mean_74 (by decide) ?_
    exact gx_sub (hk39 v0 v1 v2 (v3 + x16) v4 (v5 + (1 : Int32)) h13) (And.intro rfl (And.intro rfl (And.intro rfl (And.intro rfl (And.intro rfl (And.intro rfl True.intro))))))
set_option maxRecDepth 100000 in
set_option maxHeartbeats 4000000 in
theorem gX11_mean_39 {E : gx_Env} {d : Nat}  : ∀ (n : Nat) (v0 : Nat) (v1 : Int32) (v2 : Int32) (v3 : Int32) (v4 : Int32) (v5 : Int32) (h : gx_H), gx_G E RX11 cX11_mean 6 (some .int) false (d + 6) 0 0 39 [some (.ref v0), some (.int v1), some (.int v2), some (.int v3), some (.int v4), some (.int v5)] [] h (fun x : Int32 => some (.int x)) (fX11_mean_39 n v0 v1 v2 v3 v4 v5 h) := by
  intro n
  induction n with
  | zero => intro v0 v1 v2 v3 v4 v5 h; exact gx_none
  | succ n ih => exact gbX11_mean_39  (fX11_mean_39  n) ih
set_option maxRecDepth 100000 in
set_option maxHeartbeats 4000000 in
theorem geX11_mean {E : gx_Env} {d : Nat} (v0 : Nat) (v1 : Int32) (v2 : Int32) (h : gx_H) : gx_G E RX11 cX11_mean 6 (some .int) false (d + 6) 0 0 0 [some (.ref v0), some (.int v1), some (.int v2), none, none, none] [] h (fun x : Int32 => some (.int x)) (fX11_mean v0 v1 v2 h) := by
  unfold fX11_mean
  refine gx_bind fun _ _ => ?_
  refine gx_aload_n 0 dX11_mean_0 rfl rfl ?_
  refine gx_iload_n 1 dX11_mean_1 rfl rfl ?_
  refine gx_callV (ci := 9) (bc := 0) (bs := 0) (mc := 0) (ms := 0) (em' := (fun x : Int32 => some (.int x))) [.int v1] kc_RX11_185 rfl dX11_mean_2 rfl rfl (gx_w8 rfl) (fun x q => (gx_isO_of (by unfold fX11_isPlayer at q; exact q)).2) (fun _ _ q => okX11_isPlayer (d + 4) q) (fun x2 h1 => ?_)
  refine gx_if_eq 20 dX11_mean_5 (by decide) (fun _ => ?_) (fun _ => ?_)
  · exact gx_sub (gX11_mean_20 v0 h1) (And.intro rfl True.intro)
  · refine gx_iload_n 2 dX11_mean_8 rfl rfl ?_
    refine gx_i2l dX11_mean_9 ?_
    refine gx_lconst (0 : Int64) dX11_mean_10 (by decide) ?_
    refine gx_ldc2 kk_RX11_88 dX11_mean_11 ?_
    refine gx_callS (bc := 0) (bs := 0) (mc := 0) (ms := 0) (em' := (fun x : Int32 => some (.int x))) [.long ((v2).toInt64), .long (0 : Int64), .long (5 : Int64)] kc_RX11_39 dX11_mean_14 rfl rfl (gx_w8 rfl) (fun _ _ q => okX11_in (d + 5) q) (fun x4 h3 => ?_)
    refine gx_if_ne 27 dX11_mean_17 (by decide) (fun _ => ?_) (fun _ => ?_)
    · refine gx_iconst (0 : Int32) dX11_mean_27 (by decide) ?_
      refine gx_istore_n 3 [some (.ref v0), some (.int v1), some (.int v2), some (.int (0 : Int32)), none, none] dX11_mean_28 rfl (by decide) rfl ?_
      refine gx_aload_n 0 dX11_mean_29 rfl rfl ?_
      refine gx_iload_n 2 dX11_mean_30 rfl rfl ?_
      refine gx_callV (ci := 9) (bc := 0) (bs := 0) (mc := 0) (ms := 0) (em' := (fun x : Int32 => some (.int x))) [.int v2] kc_RX11_202 rfl dX11_mean_31 rfl rfl (gx_w8 rfl) (fun x q => (gx_isO_of (by unfold fX11_rowsOf at q; exact q)).2) (fun _ _ q => okX11_rowsOf (d + 5) q) (fun x6 h5 => ?_)
      refine gx_istore [some (.ref v0), some (.int v1), some (.int v2), some (.int (0 : Int32)), some (.int x6), none] dX11_mean_34 (by decide) rfl ?_
      refine gx_iconst (0 : Int32) dX11_mean_36 (by decide) ?_
      refine gx_istore [some (.ref v0), some (.int v1), some (.int v2), some (.int (0 : Int32)), some (.int x6), some (.int (0 : Int32))] dX11_mean_37 (by decide) rfl ?_
      exact gx_sub (gX11_mean_39 gx_N v0 v1 v2 (0 : Int32) x6 (0 : Int32) h5) (And.intro rfl (And.intro rfl (And.intro rfl (And.intro rfl (And.intro rfl (And.intro rfl True.intro))))))
    · exact gx_sub (gX11_mean_20 v0 h3) (And.intro rfl True.intro)
theorem okX11_mean {E : gx_Env} (d : Nat) {v0 : Nat} {v1 : Int32} {v2 : Int32} {h : gx_H} {r : Int32} {h1 : gx_H} (q : fX11_mean v0 v1 v2 h = some (r, h1)) : gx_M E yX11_mean cX11_mean 6 (some .int) (d + 6) 0 0 [.ref v0, .int v1, .int v2] h ((fun x : Int32 => some (.int x)) r) h1 := gx_meth (y := yX11_mean) (cc := cX11_mean) (nL := 6) (em := (fun x : Int32 => some (.int x))) (ini := false) [.ref v0, .int v1, .int v2] (by decide) (by simp [gx_sl]) (fun q => by cases q) (geX11_mean v0 v1 v2 h) q
theorem dX11_ahead_0 : decode cX11_ahead 0 = .ok (.aload_n 0, 1) := by decide +kernel
theorem dX11_ahead_1 : decode cX11_ahead 1 = .ok (.iload_n 1, 1) := by decide +kernel
theorem dX11_ahead_2 : decode cX11_ahead 2 = .ok (.invokevirtual 185, 3) := by decide +kernel
theorem dX11_ahead_5 : decode cX11_ahead 5 = .ok (.ifCond .eq 28, 3) := by decide +kernel
theorem dX11_ahead_8 : decode cX11_ahead 8 = .ok (.aload_n 0, 1) := by decide +kernel
theorem dX11_ahead_9 : decode cX11_ahead 9 = .ok (.iload_n 2, 1) := by decide +kernel
theorem dX11_ahead_10 : decode cX11_ahead 10 = .ok (.invokevirtual 185, 3) := by decide +kernel
theorem dX11_ahead_13 : decode cX11_ahead 13 = .ok (.ifCond .eq 20, 3) := by decide +kernel
theorem dX11_ahead_16 : decode cX11_ahead 16 = .ok (.iload_n 1, 1) := by decide +kernel
theorem dX11_ahead_17 : decode cX11_ahead 17 = .ok (.iload_n 2, 1) := by decide +kernel
theorem dX11_ahead_18 : decode cX11_ahead 18 = .ok (.if_icmp .eq 15, 3) := by decide +kernel
theorem dX11_ahead_21 : decode cX11_ahead 21 = .ok (.iload_n 3, 1) := by decide +kernel
theorem dX11_ahead_22 : decode cX11_ahead 22 = .ok (.i2l, 1) := by decide +kernel
theorem dX11_ahead_23 : decode cX11_ahead 23 = .ok (.lconst 0, 1) := by decide +kernel
theorem dX11_ahead_24 : decode cX11_ahead 24 = .ok (.ldc2_w 77, 3) := by decide +kernel
theorem dX11_ahead_27 : decode cX11_ahead 27 = .ok (.invokestatic 39, 3) := by decide +kernel
theorem dX11_ahead_30 : decode cX11_ahead 30 = .ok (.ifCond .ne 10, 3) := by decide +kernel
theorem dX11_ahead_33 : decode cX11_ahead 33 = .ok (.aload_n 0, 1) := by decide +kernel
theorem dX11_ahead_34 : decode cX11_ahead 34 = .ok (.bipush (-2), 2) := by decide +kernel
theorem dX11_ahead_36 : decode cX11_ahead 36 = .ok (.invokevirtual 81, 3) := by decide +kernel
theorem dX11_ahead_39 : decode cX11_ahead 39 = .ok (.ireturn, 1) := by decide +kernel
theorem dX11_ahead_40 : decode cX11_ahead 40 = .ok (.iconst 0, 1) := by decide +kernel
theorem dX11_ahead_41 : decode cX11_ahead 41 = .ok (.istore 4, 2) := by decide +kernel
theorem dX11_ahead_43 : decode cX11_ahead 43 = .ok (.aload_n 0, 1) := by decide +kernel
theorem dX11_ahead_44 : decode cX11_ahead 44 = .ok (.iconst 2, 1) := by decide +kernel
theorem dX11_ahead_45 : decode cX11_ahead 45 = .ok (.iload_n 3, 1) := by decide +kernel
theorem dX11_ahead_46 : decode cX11_ahead 46 = .ok (.imul, 1) := by decide +kernel
theorem dX11_ahead_47 : decode cX11_ahead 47 = .ok (.invokevirtual 202, 3) := by decide +kernel
theorem dX11_ahead_50 : decode cX11_ahead 50 = .ok (.istore 5, 2) := by decide +kernel
theorem dX11_ahead_52 : decode cX11_ahead 52 = .ok (.iconst 0, 1) := by decide +kernel
theorem dX11_ahead_53 : decode cX11_ahead 53 = .ok (.istore 6, 2) := by decide +kernel
theorem dX11_ahead_55 : decode cX11_ahead 55 = .ok (.iload 6, 2) := by decide +kernel
theorem dX11_ahead_57 : decode cX11_ahead 57 = .ok (.iload 5, 2) := by decide +kernel
theorem dX11_ahead_59 : decode cX11_ahead 59 = .ok (.if_icmp .ge 108, 3) := by decide +kernel
theorem dX11_ahead_62 : decode cX11_ahead 62 = .ok (.aload_n 0, 1) := by decide +kernel
theorem dX11_ahead_63 : decode cX11_ahead 63 = .ok (.invokevirtual 208, 3) := by decide +kernel
theorem dX11_ahead_66 : decode cX11_ahead 66 = .ok (.iload 5, 2) := by decide +kernel
theorem dX11_ahead_68 : decode cX11_ahead 68 = .ok (.istore 7, 2) := by decide +kernel
theorem dX11_ahead_70 : decode cX11_ahead 70 = .ok (.iconst 0, 1) := by decide +kernel
theorem dX11_ahead_71 : decode cX11_ahead 71 = .ok (.istore 8, 2) := by decide +kernel
theorem dX11_ahead_73 : decode cX11_ahead 73 = .ok (.iload 8, 2) := by decide +kernel
theorem dX11_ahead_75 : decode cX11_ahead 75 = .ok (.iconst 2, 1) := by decide +kernel
theorem dX11_ahead_76 : decode cX11_ahead 76 = .ok (.iload_n 3, 1) := by decide +kernel
theorem dX11_ahead_77 : decode cX11_ahead 77 = .ok (.imul, 1) := by decide +kernel
theorem dX11_ahead_78 : decode cX11_ahead 78 = .ok (.if_icmp .ge 50, 3) := by decide +kernel
theorem dX11_ahead_81 : decode cX11_ahead 81 = .ok (.iload 7, 2) := by decide +kernel
theorem dX11_ahead_83 : decode cX11_ahead 83 = .ok (.aload_n 0, 1) := by decide +kernel
theorem dX11_ahead_84 : decode cX11_ahead 84 = .ok (.getfield 7, 3) := by decide +kernel
theorem dX11_ahead_87 : decode cX11_ahead 87 = .ok (.iconst 1, 1) := by decide +kernel
theorem dX11_ahead_88 : decode cX11_ahead 88 = .ok (.iaload, 1) := by decide +kernel
theorem dX11_ahead_89 : decode cX11_ahead 89 = .ok (.idiv, 1) := by decide +kernel
theorem dX11_ahead_90 : decode cX11_ahead 90 = .ok (.istore 7, 2) := by decide +kernel
theorem dX11_ahead_92 : decode cX11_ahead 92 = .ok (.aload_n 0, 1) := by decide +kernel
theorem dX11_ahead_93 : decode cX11_ahead 93 = .ok (.iload 8, 2) := by decide +kernel
theorem dX11_ahead_95 : decode cX11_ahead 95 = .ok (.iconst 2, 1) := by decide +kernel
theorem dX11_ahead_96 : decode cX11_ahead 96 = .ok (.irem, 1) := by decide +kernel
theorem dX11_ahead_97 : decode cX11_ahead 97 = .ok (.ifCond .ne 7, 3) := by decide +kernel
theorem dX11_ahead_100 : decode cX11_ahead 100 = .ok (.iload_n 1, 1) := by decide +kernel
theorem dX11_ahead_101 : decode cX11_ahead 101 = .ok (.goto 4, 3) := by decide +kernel
theorem dX11_ahead_104 : decode cX11_ahead 104 = .ok (.iload_n 2, 1) := by decide +kernel
theorem dX11_ahead_105 : decode cX11_ahead 105 = .ok (.iload 6, 2) := by decide +kernel
theorem dX11_ahead_107 : decode cX11_ahead 107 = .ok (.iload 7, 2) := by decide +kernel
theorem dX11_ahead_109 : decode cX11_ahead 109 = .ok (.idiv, 1) := by decide +kernel
theorem dX11_ahead_110 : decode cX11_ahead 110 = .ok (.aload_n 0, 1) := by decide +kernel
theorem dX11_ahead_111 : decode cX11_ahead 111 = .ok (.getfield 7, 3) := by decide +kernel
theorem dX11_ahead_114 : decode cX11_ahead 114 = .ok (.iconst 1, 1) := by decide +kernel
theorem dX11_ahead_115 : decode cX11_ahead 115 = .ok (.iaload, 1) := by decide +kernel
theorem dX11_ahead_116 : decode cX11_ahead 116 = .ok (.irem, 1) := by decide +kernel
theorem dX11_ahead_117 : decode cX11_ahead 117 = .ok (.iconst 1, 1) := by decide +kernel
theorem dX11_ahead_118 : decode cX11_ahead 118 = .ok (.iadd, 1) := by decide +kernel
theorem dX11_ahead_119 : decode cX11_ahead 119 = .ok (.invokevirtual 205, 3) := by decide +kernel
theorem dX11_ahead_122 : decode cX11_ahead 122 = .ok (.iinc 8 1, 3) := by decide +kernel
theorem dX11_ahead_125 : decode cX11_ahead 125 = .ok (.goto (-52), 3) := by decide +kernel
theorem dX11_ahead_128 : decode cX11_ahead 128 = .ok (.iload 4, 2) := by decide +kernel
theorem dX11_ahead_130 : decode cX11_ahead 130 = .ok (.aload_n 0, 1) := by decide +kernel
theorem dX11_ahead_131 : decode cX11_ahead 131 = .ok (.getfield 7, 3) := by decide +kernel
theorem dX11_ahead_134 : decode cX11_ahead 134 = .ok (.sipush 844, 3) := by decide +kernel
theorem dX11_ahead_137 : decode cX11_ahead 137 = .ok (.iload_n 1, 1) := by decide +kernel
theorem dX11_ahead_138 : decode cX11_ahead 138 = .ok (.iadd, 1) := by decide +kernel
theorem dX11_ahead_139 : decode cX11_ahead 139 = .ok (.iaload, 1) := by decide +kernel
theorem dX11_ahead_140 : decode cX11_ahead 140 = .ok (.aload_n 0, 1) := by decide +kernel
theorem dX11_ahead_141 : decode cX11_ahead 141 = .ok (.getfield 7, 3) := by decide +kernel
theorem dX11_ahead_144 : decode cX11_ahead 144 = .ok (.sipush 844, 3) := by decide +kernel
theorem dX11_ahead_147 : decode cX11_ahead 147 = .ok (.iload_n 2, 1) := by decide +kernel
theorem dX11_ahead_148 : decode cX11_ahead 148 = .ok (.iadd, 1) := by decide +kernel
theorem dX11_ahead_149 : decode cX11_ahead 149 = .ok (.iaload, 1) := by decide +kernel
theorem dX11_ahead_150 : decode cX11_ahead 150 = .ok (.if_icmp .le 7, 3) := by decide +kernel
theorem dX11_ahead_153 : decode cX11_ahead 153 = .ok (.iconst 1, 1) := by decide +kernel
theorem dX11_ahead_154 : decode cX11_ahead 154 = .ok (.goto 4, 3) := by decide +kernel
theorem dX11_ahead_157 : decode cX11_ahead 157 = .ok (.iconst 0, 1) := by decide +kernel
theorem dX11_ahead_158 : decode cX11_ahead 158 = .ok (.iadd, 1) := by decide +kernel
theorem dX11_ahead_159 : decode cX11_ahead 159 = .ok (.istore 4, 2) := by decide +kernel
theorem dX11_ahead_161 : decode cX11_ahead 161 = .ok (.iinc 6 1, 3) := by decide +kernel
theorem dX11_ahead_164 : decode cX11_ahead 164 = .ok (.goto (-109), 3) := by decide +kernel
theorem dX11_ahead_167 : decode cX11_ahead 167 = .ok (.aload_n 0, 1) := by decide +kernel
theorem dX11_ahead_168 : decode cX11_ahead 168 = .ok (.iload 4, 2) := by decide +kernel
theorem dX11_ahead_170 : decode cX11_ahead 170 = .ok (.i2l, 1) := by decide +kernel
theorem dX11_ahead_171 : decode cX11_ahead 171 = .ok (.iload 5, 2) := by decide +kernel
theorem dX11_ahead_173 : decode cX11_ahead 173 = .ok (.i2l, 1) := by decide +kernel
theorem dX11_ahead_174 : decode cX11_ahead 174 = .ok (.invokevirtual 214, 3) := by decide +kernel
theorem dX11_ahead_177 : decode cX11_ahead 177 = .ok (.ireturn, 1) := by decide +kernel
def fX11_ahead_33 (v0 : Nat) (h : gx_H) : Option (Int32 × gx_H) :=
  gx_bd (fX11_bad v0 (-2 : Int32) h) fun x10 h9 =>
  some (x10, h9)
def fX11_ahead_105 (k55 : Nat → Int32 → Int32 → Int32 → Int32 → Int32 → Int32 → gx_H → Option (Int32 × gx_H)) (k73 : Nat → Int32 → Int32 → Int32 → Int32 → Int32 → Int32 → Int32 → Int32 → gx_H → Option (Int32 × gx_H)) (v0 : Nat) (v1 : Int32) (v2 : Int32) (v3 : Int32) (v4 : Int32) (v5 : Int32) (v6 : Int32) (v7 : Int32) (v8 : Int32) (s0 : Nat) (s1 : Int32) (h : gx_H) : Option (Int32 × gx_H) :=
  (gx_dI v6 v7).bind fun z23 =>
  (gx_fR h v0 9 0).bind fun a24 =>
  (gx_aI 0 h a24 (1 : Int32)).bind fun x25 =>
  (gx_rI z23 x25).bind fun z26 =>
  gx_bd (fX11_rollsTried s0 s1 (z26 + (1 : Int32)) h) fun u28 h27 =>
  k73 v0 v1 v2 v3 v4 v5 v6 v7 (v8 + (1 : Int32)) h27
def fX11_ahead_158 (k55 : Nat → Int32 → Int32 → Int32 → Int32 → Int32 → Int32 → gx_H → Option (Int32 × gx_H)) (v0 : Nat) (v1 : Int32) (v2 : Int32) (v3 : Int32) (v5 : Int32) (v6 : Int32) (s0 : Int32) (s1 : Int32) (h : gx_H) : Option (Int32 × gx_H) :=
  k55 v0 v1 v2 v3 (s0 + s1) v5 (v6 + (1 : Int32)) h
def bX11_ahead_73 (k55 : Nat → Int32 → Int32 → Int32 → Int32 → Int32 → Int32 → gx_H → Option (Int32 × gx_H)) (k73 : Nat → Int32 → Int32 → Int32 → Int32 → Int32 → Int32 → Int32 → Int32 → gx_H → Option (Int32 × gx_H)) (v0 : Nat) (v1 : Int32) (v2 : Int32) (v3 : Int32) (v4 : Int32) (v5 : Int32) (v6 : Int32) (v7 : Int32) (v8 : Int32) (h : gx_H) : Option (Int32 × gx_H) :=
  if ((2 : Int32) * v3) ≤ v8 then
    (gx_fR h v0 9 0).bind fun a15 =>
    (gx_aI 0 h a15 ((844 : Int32) + v1)).bind fun x16 =>
    (gx_fR h v0 9 0).bind fun a17 =>
    (gx_aI 0 h a17 ((844 : Int32) + v2)).bind fun x18 =>
    if x16 ≤ x18 then
      fX11_ahead_158 k55 v0 v1 v2 v3 v5 v6 v4 (0 : Int32) h
    else
      fX11_ahead_158 k55 v0 v1 v2 v3 v5 v6 v4 (1 : Int32) h
  else
    (gx_fR h v0 9 0).bind fun a19 =>
    (gx_aI 0 h a19 (1 : Int32)).bind fun x20 =>
    (gx_dI v7 x20).bind fun z21 =>
    (gx_rI v8 (2 : Int32)).bind fun z22 =>
    if z22 = 0 then
      fX11_ahead_105 k55 k73 v0 v1 v2 v3 v4 v5 v6 z21 v8 v0 v1 h
    else
      fX11_ahead_105 k55 k73 v0 v1 v2 v3 v4 v5 v6 z21 v8 v0 v2 h
def fX11_ahead_73 (k55 : Nat → Int32 → Int32 → Int32 → Int32 → Int32 → Int32 → gx_H → Option (Int32 × gx_H)) : Nat → Nat → Int32 → Int32 → Int32 → Int32 → Int32 → Int32 → Int32 → Int32 → gx_H → Option (Int32 × gx_H)
  | 0 => fun _ _ _ _ _ _ _ _ _ _ => none
  | n + 1 => bX11_ahead_73 k55 (fX11_ahead_73 k55 n)
def bX11_ahead_55 (k55 : Nat → Int32 → Int32 → Int32 → Int32 → Int32 → Int32 → gx_H → Option (Int32 × gx_H)) (v0 : Nat) (v1 : Int32) (v2 : Int32) (v3 : Int32) (v4 : Int32) (v5 : Int32) (v6 : Int32) (h : gx_H) : Option (Int32 × gx_H) :=
  if v5 ≤ v6 then
    gx_bd (fX11_told v0 ((v4).toInt64) ((v5).toInt64) h) fun x12 h11 =>
    some (x12, h11)
  else
    gx_bd (fX11_tries v0 h) fun u14 h13 =>
    fX11_ahead_73 k55 gx_N v0 v1 v2 v3 v4 v5 v6 v5 (0 : Int32) h13
def fX11_ahead_55 : Nat → Nat → Int32 → Int32 → Int32 → Int32 → Int32 → Int32 → gx_H → Option (Int32 × gx_H)
  | 0 => fun _ _ _ _ _ _ _ _ => none
  | n + 1 => bX11_ahead_55 (fX11_ahead_55 n)
def fX11_ahead (v0 : Nat) (v1 : Int32) (v2 : Int32) (v3 : Int32) (h : gx_H) : Option (Int32 × gx_H) :=
  (gx_isO h v0 9).bind fun _ =>
  gx_bd (fX11_isPlayer v0 v1 h) fun x2 h1 =>
  if x2 = 0 then
    fX11_ahead_33 v0 h1
  else
    gx_bd (fX11_isPlayer v0 v2 h1) fun x4 h3 =>
    if x4 = 0 then
      fX11_ahead_33 v0 h3
    else
      if v1 = v2 then
        fX11_ahead_33 v0 h3
      else
        gx_bd (fX11_in ((v3).toInt64) (0 : Int64) (2 : Int64) h3) fun x6 h5 =>
        if x6 = 0 then
          fX11_ahead_33 v0 h5
        else
          gx_bd (fX11_rowsOf v0 ((2 : Int32) * v3) h5) fun x8 h7 =>
          fX11_ahead_55 gx_N v0 v1 v2 v3 (0 : Int32) x8 (0 : Int32) h7
set_option maxRecDepth 100000 in
set_option maxHeartbeats 4000000 in
theorem gX11_ahead_33 {E : gx_Env} {d : Nat}  : ∀ (v0 : Nat) (h : gx_H), gx_G E RX11 cX11_ahead 9 (some .int) false (d + 5) 0 0 33 [some (.ref v0), none, none, none, none, none, none, none, none] [] h (fun x : Int32 => some (.int x)) (fX11_ahead_33 v0 h) := by
  intro v0 h
  unfold fX11_ahead_33
  refine gx_aload_n 0 dX11_ahead_33 rfl rfl ?_
  refine gx_bipush (-2 : Int32) dX11_ahead_34 (by decide) ?_
  refine gx_callV (ci := 9) (bc := 0) (bs := 0) (mc := 0) (ms := 0) (em' := (fun x : Int32 => some (.int x))) [.int (-2 : Int32)] kc_RX11_81 rfl dX11_ahead_36 rfl rfl (gx_w8 rfl) (fun x q => (gx_isO_of (by unfold fX11_bad at q; exact q)).2) (fun _ _ q => okX11_bad (d + 4) q) (fun x10 h9 => ?_)
  exact gx_iret dX11_ahead_39 rfl
set_option maxRecDepth 100000 in
set_option maxHeartbeats 4000000 in
theorem gX11_ahead_105 {E : gx_Env} {d : Nat} (k55 : Nat → Int32 → Int32 → Int32 → Int32 → Int32 → Int32 → gx_H → Option (Int32 × gx_H)) (hk55 : ∀ (v0 : Nat) (v1 : Int32) (v2 : Int32) (v3 : Int32) (v4 : Int32) (v5 : Int32) (v6 : Int32) (h : gx_H), gx_G E RX11 cX11_ahead 9 (some .int) false (d + 5) 0 0 55 [some (.ref v0), some (.int v1), some (.int v2), some (.int v3), some (.int v4), some (.int v5), some (.int v6), none, none] [] h (fun x : Int32 => some (.int x)) (k55 v0 v1 v2 v3 v4 v5 v6 h))  (k73 : Nat → Int32 → Int32 → Int32 → Int32 → Int32 → Int32 → Int32 → Int32 → gx_H → Option (Int32 × gx_H)) (hk73 : ∀ (v0 : Nat) (v1 : Int32) (v2 : Int32) (v3 : Int32) (v4 : Int32) (v5 : Int32) (v6 : Int32) (v7 : Int32) (v8 : Int32) (h : gx_H), gx_G E RX11 cX11_ahead 9 (some .int) false (d + 5) 0 0 73 [some (.ref v0), some (.int v1), some (.int v2), some (.int v3), some (.int v4), some (.int v5), some (.int v6), some (.int v7), some (.int v8)] [] h (fun x : Int32 => some (.int x)) (k73 v0 v1 v2 v3 v4 v5 v6 v7 v8 h))  : ∀ (v0 : Nat) (v1 : Int32) (v2 : Int32) (v3 : Int32) (v4 : Int32) (v5 : Int32) (v6 : Int32) (v7 : Int32) (v8 : Int32) (s0 : Nat) (s1 : Int32) (h : gx_H), gx_G E RX11 cX11_ahead 9 (some .int) false (d + 5) 0 0 105 [some (.ref v0), some (.int v1), some (.int v2), some (.int v3), some (.int v4), some (.int v5), some (.int v6), some (.int v7), some (.int v8)] [.int s1, .ref s0] h (fun x : Int32 => some (.int x)) (fX11_ahead_105 k55 k73 v0 v1 v2 v3 v4 v5 v6 v7 v8 s0 s1 h) := by
  intro v0 v1 v2 v3 v4 v5 v6 v7 v8 s0 s1 h
  unfold fX11_ahead_105
  refine gx_iload dX11_ahead_105 rfl ?_
  refine gx_iload dX11_ahead_107 rfl ?_
  refine gx_idiv dX11_ahead_109 (fun z23 => ?_)
  refine gx_aload_n 0 dX11_ahead_110 rfl rfl ?_
  refine gx_getR kf_RX11_7 dX11_ahead_111 (fun a24 => ?_)
  refine gx_iconst (1 : Int32) dX11_ahead_114 (by decide) ?_
  refine gx_iald dX11_ahead_115 (fun x25 => ?_)
  refine gx_irem dX11_ahead_116 (fun z26 => ?_)
  refine gx_iconst (1 : Int32) dX11_ahead_117 (by decide) ?_
  refine gx_iadd dX11_ahead_118 ?_
  refine gx_callV (ci := 9) (bc := 0) (bs := 0) (mc := 0) (ms := 0) (em' := (fun _ : Unit => none)) [.int s1, .int (z26 + (1 : Int32))] kc_RX11_205 rfl dX11_ahead_119 rfl rfl (gx_w8 rfl) (fun x q => (gx_isO_of (by unfold fX11_rollsTried at q; exact q)).2) (fun _ _ q => okX11_rollsTried d q) (fun u28 h27 => ?_)
  refine gx_iinc (1 : Int32) [some (.ref v0), some (.int v1), some (.int v2), some (.int v3), some (.int v4), some (.int v5), some (.int v6), some (.int v7), some (.int (v8 + (1 : Int32)))] dX11_ahead_122 rfl (by decide) (by decide) rfl ?_
  refine gx_goto 73 dX11_ahead_125 (by decide) ?_
  exact gx_sub (hk73 v0 v1 v2 v3 v4 v5 v6 v7 (v8 + (1 : Int32)) h27) (And.intro rfl (And.intro rfl (And.intro rfl (And.intro rfl (And.intro rfl (And.intro rfl (And.intro rfl (And.intro rfl (And.intro rfl True.intro)))))))))
set_option maxRecDepth 100000 in
set_option maxHeartbeats 4000000 in
theorem gX11_ahead_158 {E : gx_Env} {d : Nat} (k55 : Nat → Int32 → Int32 → Int32 → Int32 → Int32 → Int32 → gx_H → Option (Int32 × gx_H)) (hk55 : ∀ (v0 : Nat) (v1 : Int32) (v2 : Int32) (v3 : Int32) (v4 : Int32) (v5 : Int32) (v6 : Int32) (h : gx_H), gx_G E RX11 cX11_ahead 9 (some .int) false (d + 5) 0 0 55 [some (.ref v0), some (.int v1), some (.int v2), some (.int v3), some (.int v4), some (.int v5), some (.int v6), none, none] [] h (fun x : Int32 => some (.int x)) (k55 v0 v1 v2 v3 v4 v5 v6 h))  : ∀ (v0 : Nat) (v1 : Int32) (v2 : Int32) (v3 : Int32) (v5 : Int32) (v6 : Int32) (s0 : Int32) (s1 : Int32) (h : gx_H), gx_G E RX11 cX11_ahead 9 (some .int) false (d + 5) 0 0 158 [some (.ref v0), some (.int v1), some (.int v2), some (.int v3), none, some (.int v5), some (.int v6), none, none] [.int s1, .int s0] h (fun x : Int32 => some (.int x)) (fX11_ahead_158 k55 v0 v1 v2 v3 v5 v6 s0 s1 h) := by
  intro v0 v1 v2 v3 v5 v6 s0 s1 h
  unfold fX11_ahead_158
  refine gx_iadd dX11_ahead_158 ?_
  refine gx_istore [some (.ref v0), some (.int v1), some (.int v2), some (.int v3), some (.int (s0 + s1)), some (.int v5), some (.int v6), none, none] dX11_ahead_159 (by decide) rfl ?_
  refine gx_iinc (1 : Int32) [some (.ref v0), some (.int v1), some (.int v2), some (.int v3), some (.int (s0 + s1)), some (.int v5), some (.int (v6 + (1 : Int32))), none, none] dX11_ahead_161 rfl (by decide) (by decide) rfl ?_
  refine gx_goto 55 dX11_ahead_164 (by decide) ?_
  exact gx_sub (hk55 v0 v1 v2 v3 (s0 + s1) v5 (v6 + (1 : Int32)) h) (And.intro rfl (And.intro rfl (And.intro rfl (And.intro rfl (And.intro rfl (And.intro rfl (And.intro rfl True.intro)))))))
set_option maxRecDepth 100000 in
set_option maxHeartbeats 4000000 in
theorem gbX11_ahead_73 {E : gx_Env} {d : Nat} (k55 : Nat → Int32 → Int32 → Int32 → Int32 → Int32 → Int32 → gx_H → Option (Int32 × gx_H)) (hk55 : ∀ (v0 : Nat) (v1 : Int32) (v2 : Int32) (v3 : Int32) (v4 : Int32) (v5 : Int32) (v6 : Int32) (h : gx_H), gx_G E RX11 cX11_ahead 9 (some .int) false (d + 5) 0 0 55 [some (.ref v0), some (.int v1), some (.int v2), some (.int v3), some (.int v4), some (.int v5), some (.int v6), none, none] [] h (fun x : Int32 => some (.int x)) (k55 v0 v1 v2 v3 v4 v5 v6 h))  (k73 : Nat → Int32 → Int32 → Int32 → Int32 → Int32 → Int32 → Int32 → Int32 → gx_H → Option (Int32 × gx_H)) (hk73 : ∀ (v0 : Nat) (v1 : Int32) (v2 : Int32) (v3 : Int32) (v4 : Int32) (v5 : Int32) (v6 : Int32) (v7 : Int32) (v8 : Int32) (h : gx_H), gx_G E RX11 cX11_ahead 9 (some .int) false (d + 5) 0 0 73 [some (.ref v0), some (.int v1), some (.int v2), some (.int v3), some (.int v4), some (.int v5), some (.int v6), some (.int v7), some (.int v8)] [] h (fun x : Int32 => some (.int x)) (k73 v0 v1 v2 v3 v4 v5 v6 v7 v8 h))  : ∀ (v0 : Nat) (v1 : Int32) (v2 : Int32) (v3 : Int32) (v4 : Int32) (v5 : Int32) (v6 : Int32) (v7 : Int32) (v8 : Int32) (h : gx_H), gx_G E RX11 cX11_ahead 9 (some .int) false (d + 5) 0 0 73 [some (.ref v0), some (.int v1), some (.int v2), some (.int v3), some (.int v4), some (.int v5), some (.int v6), some (.int v7), some (.int v8)] [] h (fun x : Int32 => some (.int x)) (bX11_ahead_73 k55 k73 v0 v1 v2 v3 v4 v5 v6 v7 v8 h) := by
  intro v0 v1 v2 v3 v4 v5 v6 v7 v8 h
  unfold bX11_ahead_73
  refine gx_iload dX11_ahead_73 rfl ?_
  refine gx_iconst (2 : Int32) dX11_ahead_75 (by decide) ?_
  refine gx_iload_n 3 dX11_ahead_76 rfl rfl ?_
  refine gx_imul dX11_ahead_77 ?_
  refine gx_icmp_ge 128 dX11_ahead_78 (by decide) (fun _ => ?_) (fun _ => ?_)
  · refine gx_iload dX11_ahead_128 rfl ?_
    refine gx_aload_n 0 dX11_ahead_130 rfl rfl ?_
    refine gx_getR kf_RX11_7 dX11_ahead_131 (fun a15 => ?_)
    refine gx_sipush (844 : Int32) dX11_ahead_134 (by decide) ?_
    refine gx_iload_n 1 dX11_ahead_137 rfl rfl ?_
    refine gx_iadd dX11_ahead_138 ?_
    refine gx_iald dX11_ahead_139 (fun x16 => ?_)
    refine gx_aload_n 0 dX11_ahead_140 rfl rfl ?_
    refine gx_getR kf_RX11_7 dX11_ahead_141 (fun a17 => ?_)
    refine gx_sipush (844 : Int32) dX11_ahead_144 (by decide) ?_
    refine gx_iload_n 2 dX11_ahead_147 rfl rfl ?_
    refine gx_iadd dX11_ahead_148 ?_
    refine gx_iald dX11_ahead_149 (fun x18 => ?_)
    refine gx_icmp_le 157 dX11_ahead_150 (by decide) (fun _ => ?_) (fun _ => ?_)
    · refine gx_iconst (0 : Int32) dX11_ahead_157 (by decide) ?_
      exact gx_sub (gX11_ahead_158 k55 hk55 v0 v1 v2 v3 v5 v6 v4 (0 : Int32) h) (And.intro rfl (And.intro rfl (And.intro rfl (And.intro rfl (And.intro rfl (And.intro rfl True.intro))))))
    · refine gx_iconst (1 : Int32) dX11_ahead_153 (by decide) ?_
      refine gx_goto 158 dX11_ahead_154 (by decide) ?_
      exact gx_sub (gX11_ahead_158 k55 hk55 v0 v1 v2 v3 v5 v6 v4 (1 : Int32) h) (And.intro rfl (And.intro rfl (And.intro rfl (And.intro rfl (And.intro rfl (And.intro rfl True.intro))))))
  · refine gx_iload dX11_ahead_81 rfl ?_
    refine gx_aload_n 0 dX11_ahead_83 rfl rfl ?_
    refine gx_getR kf_RX11_7 dX11_ahead_84 (fun a19 => ?_)
    refine gx_iconst (1 : Int32) dX11_ahead_87 (by decide) ?_
    refine gx_iald dX11_ahead_88 (fun x20 => ?_)
    refine gx_idiv dX11_ahead_89 (fun z21 => ?_)
    refine gx_istore [some (.ref v0), some (.int v1), some (.int v2), some (.int v3), some (.int v4), some (.int v5), some (.int v6), some (.int z21), some (.int v8)] dX11_ahead_90 (by decide) rfl ?_
    refine gx_aload_n 0 dX11_ahead_92 rfl rfl ?_
    refine gx_iload dX11_ahead_93 rfl ?_
    refine gx_iconst (2 : Int32) dX11_ahead_95 (by decide) ?_
    refine gx_irem dX11_ahead_96 (fun z22 => ?_)
    refine gx_if_ne 104 dX11_ahead_97 (by decide) (fun _ => ?_) (fun _ => ?_)
    · refine gx_iload_n 2 dX11_ahead_104 rfl rfl ?_
      exact gx_sub (gX11_ahead_105 k55 hk55 k73 hk73 v0 v1 v2 v3 v4 v5 v6 z21 v8 v0 v2 h) (And.intro rfl (And.intro rfl (And.intro rfl (And.intro rfl (And.intro rfl (And.intro rfl (And.intro rfl (And.intro rfl (And.intro rfl True.intro)))))))))
    · refine gx_iload_n 1 dX11_ahead_100 rfl rfl ?_
      refine gx_goto 105 dX11_ahead_101 (by decide) ?_
      exact gx_sub (gX11_ahead_105 k55 hk55 k73 hk73 v0 v1 v2 v3 v4 v5 v6 z21 v8 v0 v1 h) (And.intro rfl (And.intro rfl (And.intro rfl (And.intro rfl (And.intro rfl (And.intro rfl (And.intro rfl (And.intro rfl (And.intro rfl True.intro)))))))))
set_option maxRecDepth 100000 in
set_option maxHeartbeats 4000000 in
theorem gX11_ahead_73 {E : gx_Env} {d : Nat} (k55 : Nat → Int32 → Int32 → Int32 → Int32 → Int32 → Int32 → gx_H → Option (Int32 × gx_H)) (hk55 : ∀ (v0 : Nat) (v1 : Int32) (v2 : Int32) (v3 : Int32) (v4 : Int32) (v5 : Int32) (v6 : Int32) (h : gx_H), gx_G E RX11 cX11_ahead 9 (some .int) false (d + 5) 0 0 55 [some (.ref v0), some (.int v1), some (.int v2), some (.int v3), some (.int v4), some (.int v5), some (.int v6), none, none] [] h (fun x : Int32 => some (.int x)) (k55 v0 v1 v2 v3 v4 v5 v6 h))  : ∀ (n : Nat) (v0 : Nat) (v1 : Int32) (v2 : Int32) (v3 : Int32) (v4 : Int32) (v5 : Int32) (v6 : Int32) (v7 : Int32) (v8 : Int32) (h : gx_H), gx_G E RX11 cX11_ahead 9 (some .int) false (d + 5) 0 0 73 [some (.ref v0), some (.int v1), some (.int v2), some (.int v3), some (.int v4), some (.int v5), some (.int v6), some (.int v7), some (.int v8)] [] h (fun x : Int32 => some (.int x)) (fX11_ahead_73 k55 n v0 v1 v2 v3 v4 v5 v6 v7 v8 h) := by
  intro n
  induction n with
  | zero => intro v0 v1 v2 v3 v4 v5 v6 v7 v8 h; exact gx_none
  | succ n ih => exact gbX11_ahead_73 k55 hk55 (fX11_ahead_73 k55 n) ih
set_option maxRecDepth 100000 in
set_option maxHeartbeats 4000000 in
theorem gbX11_ahead_55 {E : gx_Env} {d : Nat}  (k55 : Nat → Int32 → Int32 → Int32 → Int32 → Int32 → Int32 → gx_H → Option (Int32 × gx_H)) (hk55 : ∀ (v0 : Nat) (v1 : Int32) (v2 : Int32) (v3 : Int32) (v4 : Int32) (v5 : Int32) (v6 : Int32) (h : gx_H), gx_G E RX11 cX11_ahead 9 (some .int) false (d + 5) 0 0 55 [some (.ref v0), some (.int v1), some (.int v2), some (.int v3), some (.int v4), some (.int v5), some (.int v6), none, none] [] h (fun x : Int32 => some (.int x)) (k55 v0 v1 v2 v3 v4 v5 v6 h))  : ∀ (v0 : Nat) (v1 : Int32) (v2 : Int32) (v3 : Int32) (v4 : Int32) (v5 : Int32) (v6 : Int32) (h : gx_H), gx_G E RX11 cX11_ahead 9 (some .int) false (d + 5) 0 0 55 [some (.ref v0), some (.int v1), some (.int v2), some (.int v3), some (.int v4), some (.int v5), some (.int v6), none, none] [] h (fun x : Int32 => some (.int x)) (bX11_ahead_55 k55 v0 v1 v2 v3 v4 v5 v6 h) := by
  intro v0 v1 v2 v3 v4 v5 v6 h
  unfold bX11_ahead_55
  refine gx_iload dX11_ahead_55 rfl ?_
  refine gx_iload dX11_ahead_57 rfl ?_
  refine gx_icmp_ge 167 dX11_ahead_59 (by decide) (fun _ => ?_) (fun _ => ?_)
  · refine gx_aload_n 0 dX11_ahead_167 rfl rfl ?_
    refine gx_iload dX11_ahead_168 rfl ?_
    refine gx_i2l dX11_ahead_170 ?_
    refine gx_iload dX11_ahead_171 rfl ?_
    refine gx_i2l dX11_ahead_173 ?_
    refine gx_callV (ci := 9) (bc := 0) (bs := 0) (mc := 0) (ms := 0) (em' := (fun x : Int32 => some (.int x))) [.long ((v4).toInt64), .long ((v5).toInt64)] kc_RX11_214 rfl dX11_ahead_174 rfl rfl (gx_w8 rfl) (fun x q => (gx_isO_of (by unfold fX11_told at q; exact q)).2) (fun _ _ q => okX11_told (d + 4) q) (fun x12 h11 => ?_)
    exact gx_iret dX11_ahead_177 rfl
  · refine gx_aload_n 0 dX11_ahead_62 rfl rfl ?_
    refine gx_callV (ci := 9) (bc := 0) (bs := 0) (mc := 0) (ms := 0) (em' := (fun _ : Unit => none)) [] kc_RX11_208 rfl dX11_ahead_63 rfl rfl (gx_w8 rfl) (fun x q => (gx_isO_of (by unfold fX11_tries at q; exact q)).2) (fun _ _ q => okX11_tries (d + 4) q) (fun u14 h13 => ?_)
    refine gx_iload dX11_ahead_66 rfl ?_
    refine gx_istore [some (.ref v0), some (.int v1), some (.int v2), some (.int v3), some (.int v4), some (.int v5), some (.int v6), some (.int v5), none] dX11_ahead_68 (by decide) rfl ?_
    refine gx_iconst (0 : Int32) dX11_ahead_70 (by decide) ?_
    refine gx_istore [some (.ref v0), some (.int v1), some (.int v2), some (.int v3), some (.int v4), some (.int v5), some (.int v6), some (.int v5), some (.int (0 : Int32))] dX11_ahead_71 (by decide) rfl ?_
    exact gx_sub (gX11_ahead_73 k55 hk55 gx_N v0 v1 v2 v3 v4 v5 v6 v5 (0 : Int32) h13) (And.intro rfl (And.intro rfl (And.intro rfl (And.intro rfl (And.intro rfl (And.intro rfl (And.intro rfl (And.intro rfl (And.intro rfl True.intro)))))))))
set_option maxRecDepth 100000 in
set_option maxHeartbeats 4000000 in
theorem gX11_ahead_55 {E : gx_Env} {d : Nat}  : ∀ (n : Nat) (v0 : Nat) (v1 : Int32) (v2 : Int32) (v3 : Int32) (v4 : Int32) (v5 : Int32) (v6 : Int32) (h : gx_H), gx_G E RX11 cX11_ahead 9 (some .int) false (d + 5) 0 0 55 [some (.ref v0), some (.int v1), some (.int v2), some (.int v3), some (.int v4), some (.int v5), some (.int v6), none, none] [] h (fun x : Int32 => some (.int x)) (fX11_ahead_55 n v0 v1 v2 v3 v4 v5 v6 h) := by
  intro n
  induction n with
  | zero => intro v0 v1 v2 v3 v4 v5 v6 h; exact gx_none
  | succ n ih => exact gbX11_ahead_55  (fX11_ahead_55  n) ih
set_option maxRecDepth 100000 in
set_option maxHeartbeats 4000000 in
theorem geX11_ahead {E : gx_Env} {d : Nat} (v0 : Nat) (v1 : Int32) (v2 : Int32) (v3 : Int32) (h : gx_H) : gx_G E RX11 cX11_ahead 9 (some .int) false (d + 5) 0 0 0 [some (.ref v0), some (.int v1), some (.int v2), some (.int v3), none, none, none, none, none] [] h (fun x : Int32 => some (.int x)) (fX11_ahead v0 v1 v2 v3 h) := by
  unfold fX11_ahead
  refine gx_bind fun _ _ => ?_
  refine gx_aload_n 0 dX11_ahead_0 rfl rfl ?_
  refine gx_iload_n 1 dX11_ahead_1 rfl rfl ?_
  refine gx_callV (ci := 9) (bc := 0) (bs := 0) (mc := 0) (ms := 0) (em' := (fun x : Int32 => some (.int x))) [.int v1] kc_RX11_185 rfl dX11_ahead_2 rfl rfl (gx_w8 rfl) (fun x q => (gx_isO_of (by unfold fX11_isPlayer at q; exact q)).2) (fun _ _ q => okX11_isPlayer (d + 3) q) (fun x2 h1 => ?_)
  refine gx_if_eq 33 dX11_ahead_5 (by decide) (fun _ => ?_) (fun _ => ?_)
  · exact gx_sub (gX11_ahead_33 v0 h1) (And.intro rfl True.intro)
  · refine gx_aload_n 0 dX11_ahead_8 rfl rfl ?_
    refine gx_iload_n 2 dX11_ahead_9 rfl rfl ?_
    refine gx_callV (ci := 9) (bc := 0) (bs := 0) (mc := 0) (ms := 0) (em' := (fun x : Int32 => some (.int x))) [.int v2] kc_RX11_185 rfl dX11_ahead_10 rfl rfl (gx_w8 rfl) (fun x q => (gx_isO_of (by unfold fX11_isPlayer at q; exact q)).2) (fun _ _ q => okX11_isPlayer (d + 3) q) (fun x4 h3 => ?_)
    refine gx_if_eq 33 dX11_ahead_13 (by decide) (fun _ => ?_) (fun _ => ?_)
    · exact gx_sub (gX11_ahead_33 v0 h3) (And.intro rfl True.intro)
    · refine gx_iload_n 1 dX11_ahead_16 rfl rfl ?_
      refine gx_iload_n 2 dX11_ahead_17 rfl rfl ?_
      refine gx_icmp_eq 33 dX11_ahead_18 (by decide) (fun _ => ?_) (fun _ => ?_)
      · exact gx_sub (gX11_ahead_33 v0 h3) (And.intro rfl True.intro)
      · refine gx_iload_n 3 dX11_ahead_21 rfl rfl ?_
        refine gx_i2l dX11_ahead_22 ?_
        refine gx_lconst (0 : Int64) dX11_ahead_23 (by decide) ?_
        refine gx_ldc2 kk_RX11_77 dX11_ahead_24 ?_
        refine gx_callS (bc := 0) (bs := 0) (mc := 0) (ms := 0) (em' := (fun x : Int32 => some (.int x))) [.long ((v3).toInt64), .long (0 : Int64), .long (2 : Int64)] kc_RX11_39 dX11_ahead_27 rfl rfl (gx_w8 rfl) (fun _ _ q => okX11_in (d + 4) q) (fun x6 h5 => ?_)
        refine gx_if_ne 40 dX11_ahead_30 (by decide) (fun _ => ?_) (fun _ => ?_)
        · refine gx_iconst (0 : Int32) dX11_ahead_40 (by decide) ?_
          refine gx_istore [some (.ref v0), some (.int v1), some (.int v2), some (.int v3), some (.int (0 : Int32)), none, none, none, none] dX11_ahead_41 (by decide) rfl ?_
          refine gx_aload_n 0 dX11_ahead_43 rfl rfl ?_
          refine gx_iconst (2 : Int32) dX11_ahead_44 (by decide) ?_
          refine gx_iload_n 3 dX11_ahead_45 rfl rfl ?_
          refine gx_imul dX11_ahead_46 ?_
          refine gx_callV (ci := 9) (bc := 0) (bs := 0) (mc := 0) (ms := 0) (em' := (fun x : Int32 => some (.int x))) [.int ((2 : Int32) * v3)] kc_RX11_202 rfl dX11_ahead_47 rfl rfl (gx_w8 rfl) (fun x q => (gx_isO_of (by unfold fX11_rowsOf at q; exact q)).2) (fun _ _ q => okX11_rowsOf (d + 4) q) (fun x8 h7 => ?_)
          refine gx_istore [some (.ref v0), some (.int v1), some (.int v2), some (.int v3), some (.int (0 : Int32)), some (.int x8), none, none, none] dX11_ahead_50 (by decide) rfl ?_
          refine gx_iconst (0 : Int32) dX11_ahead_52 (by decide) ?_
          refine gx_istore [some (.ref v0), some (.int v1), some (.int v2), some (.int v3), some (.int (0 : Int32)), some (.int x8), some (.int (0 : Int32)), none, none] dX11_ahead_53 (by decide) rfl ?_
          exact gx_sub (gX11_ahead_55 gx_N v0 v1 v2 v3 (0 : Int32) x8 (0 : Int32) h7) (And.intro rfl (And.intro rfl (And.intro rfl (And.intro rfl (And.intro rfl (And.intro rfl (And.intro rfl True.intro)))))))
        · exact gx_sub (gX11_ahead_33 v0 h5) (And.intro rfl True.intro)
theorem okX11_ahead {E : gx_Env} (d : Nat) {v0 : Nat} {v1 : Int32} {v2 : Int32} {v3 : Int32} {h : gx_H} {r : Int32} {h1 : gx_H} (q : fX11_ahead v0 v1 v2 v3 h = some (r, h1)) : gx_M E yX11_ahead cX11_ahead 9 (some .int) (d + 5) 0 0 [.ref v0, .int v1, .int v2, .int v3] h ((fun x : Int32 => some (.int x)) r) h1 := gx_meth (y := yX11_ahead) (cc := cX11_ahead) (nL := 9) (em := (fun x : Int32 => some (.int x))) (ini := false) [.ref v0, .int v1, .int v2, .int v3] (by decide) (by simp [gx_sl]) (fun q => by cases q) (geX11_ahead v0 v1 v2 v3 h) q
theorem dX11_rather_0 : decode cX11_rather 0 = .ok (.aload_n 0, 1) := by decide +kernel
theorem dX11_rather_1 : decode cX11_rather 1 = .ok (.iload_n 1, 1) := by decide +kernel
theorem dX11_rather_2 : decode cX11_rather 2 = .ok (.invokevirtual 185, 3) := by decide +kernel
theorem dX11_rather_5 : decode cX11_rather 5 = .ok (.ifCond .eq 25, 3) := by decide +kernel
theorem dX11_rather_8 : decode cX11_rather 8 = .ok (.iload_n 2, 1) := by decide +kernel
theorem dX11_rather_9 : decode cX11_rather 9 = .ok (.i2l, 1) := by decide +kernel
theorem dX11_rather_10 : decode cX11_rather 10 = .ok (.lconst 1, 1) := by decide +kernel
theorem dX11_rather_11 : decode cX11_rather 11 = .ok (.ldc2_w 218, 3) := by decide +kernel
theorem dX11_rather_14 : decode cX11_rather 14 = .ok (.invokestatic 39, 3) := by decide +kernel
theorem dX11_rather_17 : decode cX11_rather 17 = .ok (.ifCond .eq 13, 3) := by decide +kernel
theorem dX11_rather_20 : decode cX11_rather 20 = .ok (.iload_n 3, 1) := by decide +kernel
theorem dX11_rather_21 : decode cX11_rather 21 = .ok (.i2l, 1) := by decide +kernel
theorem dX11_rather_22 : decode cX11_rather 22 = .ok (.lconst 0, 1) := by decide +kernel
theorem dX11_rather_23 : decode cX11_rather 23 = .ok (.lconst 1, 1) := by decide +kernel
theorem dX11_rather_24 : decode cX11_rather 24 = .ok (.invokestatic 39, 3) := by decide +kernel
theorem dX11_rather_27 : decode cX11_rather 27 = .ok (.ifCond .ne 10, 3) := by decide +kernel
theorem dX11_rather_30 : decode cX11_rather 30 = .ok (.aload_n 0, 1) := by decide +kernel
theorem dX11_rather_31 : decode cX11_rather 31 = .ok (.bipush (-2), 2) := by decide +kernel
theorem dX11_rather_33 : decode cX11_rather 33 = .ok (.invokevirtual 81, 3) := by decide +kernel
theorem dX11_rather_36 : decode cX11_rather 36 = .ok (.ireturn, 1) := by decide +kernel
theorem dX11_rather_37 : decode cX11_rather 37 = .ok (.iconst 0, 1) := by decide +kernel
theorem dX11_rather_38 : decode cX11_rather 38 = .ok (.istore 4, 2) := by decide +kernel
theorem dX11_rather_40 : decode cX11_rather 40 = .ok (.iconst (-1), 1) := by decide +kernel
theorem dX11_rather_41 : decode cX11_rather 41 = .ok (.istore 5, 2) := by decide +kernel
theorem dX11_rather_43 : decode cX11_rather 43 = .ok (.aload_n 0, 1) := by decide +kernel
theorem dX11_rather_44 : decode cX11_rather 44 = .ok (.iload_n 2, 1) := by decide +kernel
theorem dX11_rather_45 : decode cX11_rather 45 = .ok (.invokevirtual 202, 3) := by decide +kernel
theorem dX11_rather_48 : decode cX11_rather 48 = .ok (.istore 6, 2) := by decide +kernel
theorem dX11_rather_50 : decode cX11_rather 50 = .ok (.iconst 0, 1) := by decide +kernel
theorem dX11_rather_51 : decode cX11_rather 51 = .ok (.istore 7, 2) := by decide +kernel
theorem dX11_rather_53 : decode cX11_rather 53 = .ok (.iload 7, 2) := by decide +kernel
theorem dX11_rather_55 : decode cX11_rather 55 = .ok (.aload_n 0, 1) := by decide +kernel
theorem dX11_rather_56 : decode cX11_rather 56 = .ok (.getfield 7, 3) := by decide +kernel
theorem dX11_rather_59 : decode cX11_rather 59 = .ok (.iconst 0, 1) := by decide +kernel
theorem dX11_rather_60 : decode cX11_rather 60 = .ok (.iaload, 1) := by decide +kernel
theorem dX11_rather_61 : decode cX11_rather 61 = .ok (.if_icmp .ge 105, 3) := by decide +kernel
theorem dX11_rather_64 : decode cX11_rather 64 = .ok (.iconst 0, 1) := by decide +kernel
theorem dX11_rather_65 : decode cX11_rather 65 = .ok (.istore 8, 2) := by decide +kernel
theorem dX11_rather_67 : decode cX11_rather 67 = .ok (.iconst 0, 1) := by decide +kernel
theorem dX11_rather_68 : decode cX11_rather 68 = .ok (.istore 9, 2) := by decide +kernel
theorem dX11_rather_70 : decode cX11_rather 70 = .ok (.iload 9, 2) := by decide +kernel
theorem dX11_rather_72 : decode cX11_rather 72 = .ok (.iload 6, 2) := by decide +kernel
theorem dX11_rather_74 : decode cX11_rather 74 = .ok (.if_icmp .ge 54, 3) := by decide +kernel
theorem dX11_rather_77 : decode cX11_rather 77 = .ok (.aload_n 0, 1) := by decide +kernel
theorem dX11_rather_78 : decode cX11_rather 78 = .ok (.invokevirtual 208, 3) := by decide +kernel
theorem dX11_rather_81 : decode cX11_rather 81 = .ok (.aload_n 0, 1) := by decide +kernel
theorem dX11_rather_82 : decode cX11_rather 82 = .ok (.getfield 7, 3) := by decide +kernel
theorem dX11_rather_85 : decode cX11_rather 85 = .ok (.sipush 844, 3) := by decide +kernel
theorem dX11_rather_88 : decode cX11_rather 88 = .ok (.iload_n 1, 1) := by decide +kernel
theorem dX11_rather_89 : decode cX11_rather 89 = .ok (.iadd, 1) := by decide +kernel
theorem dX11_rather_90 : decode cX11_rather 90 = .ok (.iload 7, 2) := by decide +kernel
theorem dX11_rather_92 : decode cX11_rather 92 = .ok (.iastore, 1) := by decide +kernel
theorem dX11_rather_93 : decode cX11_rather 93 = .ok (.aload_n 0, 1) := by decide +kernel
theorem dX11_rather_94 : decode cX11_rather 94 = .ok (.iload_n 1, 1) := by decide +kernel
theorem dX11_rather_95 : decode cX11_rather 95 = .ok (.iload 9, 2) := by decide +kernel
theorem dX11_rather_97 : decode cX11_rather 97 = .ok (.iload_n 2, 1) := by decide +kernel
theorem dX11_rather_98 : decode cX11_rather 98 = .ok (.invokevirtual 211, 3) := by decide +kernel
theorem dX11_rather_101 : decode cX11_rather 101 = .ok (.iload 8, 2) := by decide +kernel
theorem dX11_rather_103 : decode cX11_rather 103 = .ok (.aload_n 0, 1) := by decide +kernel
theorem dX11_rather_104 : decode cX11_rather 104 = .ok (.sipush 812, 3) := by decide +kernel
theorem dX11_rather_107 : decode cX11_rather 107 = .ok (.iload_n 1, 1) := by decide +kernel
theorem dX11_rather_108 : decode cX11_rather 108 = .ok (.invokevirtual 57, 3) := by decide +kernel
theorem dX11_rather_111 : decode cX11_rather 111 = .ok (.ifCond .eq 7, 3) := by decide +kernel
theorem dX11_rather_114 : decode cX11_rather 114 = .ok (.iconst 1, 1) := by decide +kernel
theorem dX11_rather_115 : decode cX11_rather 115 = .ok (.goto 4, 3) := by decide +kernel
theorem dX11_rather_118 : decode cX11_rather 118 = .ok (.iconst 0, 1) := by decide +kernel
theorem dX11_rather_119 : decode cX11_rather 119 = .ok (.iadd, 1) := by decide +kernel
theorem dX11_rather_120 : decode cX11_rather 120 = .ok (.istore 8, 2) := by decide +kernel
theorem dX11_rather_122 : decode cX11_rather 122 = .ok (.iinc 9 1, 3) := by decide +kernel
theorem dX11_rather_125 : decode cX11_rather 125 = .ok (.goto (-55), 3) := by decide +kernel
theorem dX11_rather_128 : decode cX11_rather 128 = .ok (.iload 8, 2) := by decide +kernel
theorem dX11_rather_130 : decode cX11_rather 130 = .ok (.iload 5, 2) := by decide +kernel
theorem dX11_rather_132 : decode cX11_rather 132 = .ok (.if_icmp .lt 8, 3) := by decide +kernel
theorem dX11_rather_135 : decode cX11_rather 135 = .ok (.iload 7, 2) := by decide +kernel
theorem dX11_rather_137 : decode cX11_rather 137 = .ok (.goto 5, 3) := by decide +kernel
theorem dX11_rather_140 : decode cX11_rather 140 = .ok (.iload 4, 2) := by decide +kernel
theorem dX11_rather_142 : decode cX11_rather 142 = .ok (.istore 4, 2) := by decide +kernel
theorem dX11_rather_144 : decode cX11_rather 144 = .ok (.iload 8, 2) := by decide +kernel
theorem dX11_rather_146 : decode cX11_rather 146 = .ok (.iload 5, 2) := by decide +kernel
theorem dX11_rather_148 : decode cX11_rather 148 = .ok (.if_icmp .lt 8, 3) := by decide +kernel
theorem dX11_rather_151 : decode cX11_rather 151 = .ok (.iload 8, 2) := by decide +kernel
theorem dX11_rather_153 : decode cX11_rather 153 = .ok (.goto 5, 3) := by decide +kernel
theorem dX11_rather_156 : decode cX11_rather 156 = .ok (.iload 5, 2) := by decide +kernel
theorem dX11_rather_158 : decode cX11_rather 158 = .ok (.istore 5, 2) := by decide +kernel
theorem dX11_rather_160 : decode cX11_rather 160 = .ok (.iinc 7 1, 3) := by decide +kernel
theorem dX11_rather_163 : decode cX11_rather 163 = .ok (.goto (-110), 3) := by decide +kernel
theorem dX11_rather_166 : decode cX11_rather 166 = .ok (.iload_n 3, 1) := by decide +kernel
theorem dX11_rather_167 : decode cX11_rather 167 = .ok (.ifCond .ne 8, 3) := by decide +kernel
theorem dX11_rather_170 : decode cX11_rather 170 = .ok (.iload 4, 2) := by decide +kernel
theorem dX11_rather_172 : decode cX11_rather 172 = .ok (.goto 5, 3) := by decide +kernel
theorem dX11_rather_175 : decode cX11_rather 175 = .ok (.iload 5, 2) := by decide +kernel
theorem dX11_rather_177 : decode cX11_rather 177 = .ok (.ireturn, 1) := by decide +kernel
def fX11_rather_30 (v0 : Nat) (h : gx_H) : Option (Int32 × gx_H) :=
  gx_bd (fX11_bad v0 (-2 : Int32) h) fun x10 h9 =>
  some (x10, h9)
def fX11_rather_119 (k53 : Nat → Int32 → Int32 → Int32 → Int32 → Int32 → Int32 → Int32 → gx_H → Option (Int32 × gx_H)) (k70 : Nat → Int32 → Int32 → Int32 → Int32 → Int32 → Int32 → Int32 → Int32 → Int32 → gx_H → Option (Int32 × gx_H)) (v0 : Nat) (v1 : Int32) (v2 : Int32) (v3 : Int32) (v4 : Int32) (v5 : Int32) (v6 : Int32) (v7 : Int32) (v9 : Int32) (s0 : Int32) (s1 : Int32) (h : gx_H) : Option (Int32 × gx_H) :=
  k70 v0 v1 v2 v3 v4 v5 v6 v7 (s0 + s1) (v9 + (1 : Int32)) h
def fX11_rather_158 (k53 : Nat → Int32 → Int32 → Int32 → Int32 → Int32 → Int32 → Int32 → gx_H → Option (Int32 × gx_H)) (v0 : Nat) (v1 : Int32) (v2 : Int32) (v3 : Int32) (v4 : Int32) (v6 : Int32) (v7 : Int32) (s0 : Int32) (h : gx_H) : Option (Int32 × gx_H) :=
  k53 v0 v1 v2 v3 v4 s0 v6 (v7 + (1 : Int32)) h
def fX11_rather_142 (k53 : Nat → Int32 → Int32 → Int32 → Int32 → Int32 → Int32 → Int32 → gx_H → Option (Int32 × gx_H)) (v0 : Nat) (v1 : Int32) (v2 : Int32) (v3 : Int32) (v5 : Int32) (v6 : Int32) (v7 : Int32) (v8 : Int32) (s0 : Int32) (h : gx_H) : Option (Int32 × gx_H) :=
  if v8 < v5 then
    fX11_rather_158 k53 v0 v1 v2 v3 s0 v6 v7 v5 h
  else
    fX11_rather_158 k53 v0 v1 v2 v3 s0 v6 v7 v8 h
def bX11_rather_70 (k53 : Nat → Int32 → Int32 → Int32 → Int32 → Int32 → Int32 → Int32 → gx_H → Option (Int32 × gx_H)) (k70 : Nat → Int32 → Int32 → Int32 → Int32 → Int32 → Int32 → Int32 → Int32 → Int32 → gx_H → Option (Int32 × gx_H)) (v0 : Nat) (v1 : Int32) (v2 : Int32) (v3 : Int32) (v4 : Int32) (v5 : Int32) (v6 : Int32) (v7 : Int32) (v8 : Int32) (v9 : Int32) (h : gx_H) : Option (Int32 × gx_H) :=
  if v6 ≤ v9 then
    if v8 < v5 then
      fX11_rather_142 k53 v0 v1 v2 v3 v5 v6 v7 v8 v4 h
    else
      fX11_rather_142 k53 v0 v1 v2 v3 v5 v6 v7 v8 v7 h
  else
    gx_bd (fX11_tries v0 h) fun u14 h13 =>
    (gx_fR h13 v0 9 0).bind fun a15 =>
    (gx_sI 0 h13 a15 ((844 : Int32) + v1) v7).bind fun h16 =>
    gx_bd (fX11_plays v0 v1 v9 v2 h16) fun u18 h17 =>
    gx_bd (fX11_isHome v0 (812 : Int32) v1 h17) fun x20 h19 =>
    if x20 = 0 then
      fX11_rather_119 k53 k70 v0 v1 v2 v3 v4 v5 v6 v7 v9 v8 (0 : Int32) h19
    else
      fX11_rather_119 k53 k70 v0 v1 v2 v3 v4 v5 v6 v7 v9 v8 (1 : Int32) h19
def fX11_rather_70 (k53 : Nat → Int32 → Int32 → Int32 → Int32 → Int32 → Int32 → Int32 → gx_H → Option (Int32 × gx_H)) : Nat → Nat → Int32 → Int32 → Int32 → Int32 → Int32 → Int32 → Int32 → Int32 → Int32 → gx_H → Option (Int32 × gx_H)
  | 0 => fun _ _ _ _ _ _ _ _ _ _ _ => none
  | n + 1 => bX11_rather_70 k53 (fX11_rather_70 k53 n)
def fX11_rather_177 (s0 : Int32) (h : gx_H) : Option (Int32 × gx_H) :=
  some (s0, h)
def bX11_rather_53 (k53 : Nat → Int32 → Int32 → Int32 → Int32 → Int32 → Int32 → Int32 → gx_H → Option (Int32 × gx_H)) (v0 : Nat) (v1 : Int32) (v2 : Int32) (v3 : Int32) (v4 : Int32) (v5 : Int32) (v6 : Int32) (v7 : Int32) (h : gx_H) : Option (Int32 × gx_H) :=
  (gx_fR h v0 9 0).bind fun a11 =>
  (gx_aI 0 h a11 (0 : Int32)).bind fun x12 =>
  if x12 ≤ v7 then
    if v3 = 0 then
      fX11_rather_177 v4 h
    else
      fX11_rather_177 v5 h
  else
    fX11_rather_70 k53 gx_N v0 v1 v2 v3 v4 v5 v6 v7 (0 : Int32) (0 : Int32) h
def fX11_rather_53 : Nat → Nat → Int32 → Int32 → Int32 → Int32 → Int32 → Int32 → Int32 → gx_H → Option (Int32 × gx_H)
  | 0 => fun _ _ _ _ _ _ _ _ _ => none
  | n + 1 => bX11_rather_53 (fX11_rather_53 n)
def fX11_rather (v0 : Nat) (v1 : Int32) (v2 : Int32) (v3 : Int32) (h : gx_H) : Option (Int32 × gx_H) :=
  (gx_isO h v0 9).bind fun _ =>
  gx_bd (fX11_isPlayer v0 v1 h) fun x2 h1 =>
  if x2 = 0 then
    fX11_rather_30 v0 h1
  else
    gx_bd (fX11_in ((v2).toInt64) (1 : Int64) (4 : Int64) h1) fun x4 h3 =>
    if x4 = 0 then
      fX11_rather_30 v0 h3
    else
      gx_bd (fX11_in ((v3).toInt64) (0 : Int64) (1 : Int64) h3) fun x6 h5 =>
      if x6 = 0 then
        fX11_rather_30 v0 h5
      else
        gx_bd (fX11_rowsOf v0 v2 h5) fun x8 h7 =>
        fX11_rather_53 gx_N v0 v1 v2 v3 (0 : Int32) (-1 : Int32) x8 (0 : Int32) h7
set_option maxRecDepth 100000 in
set_option maxHeartbeats 4000000 in
theorem gX11_rather_30 {E : gx_Env} {d : Nat}  : ∀ (v0 : Nat) (h : gx_H), gx_G E RX11 cX11_rather 10 (some .int) false (d + 6) 0 0 30 [some (.ref v0), none, none, none, none, none, none, none, none, none] [] h (fun x : Int32 => some (.int x)) (fX11_rather_30 v0 h) := by
  intro v0 h
  unfold fX11_rather_30
  refine gx_aload_n 0 dX11_rather_30 rfl rfl ?_
  refine gx_bipush (-2 : Int32) dX11_rather_31 (by decide) ?_
  refine gx_callV (ci := 9) (bc := 0) (bs := 0) (mc := 0) (ms := 0) (em' := (fun x : Int32 => some (.int x))) [.int (-2 : Int32)] kc_RX11_81 rfl dX11_rather_33 rfl rfl (gx_w8 rfl) (fun x q => (gx_isO_of (by unfold fX11_bad at q; exact q)).2) (fun _ _ q => okX11_bad (d + 5) q) (fun x10 h9 => ?_)
  exact gx_iret dX11_rather_36 rfl
set_option maxRecDepth 100000 in
set_option maxHeartbeats 4000000 in
theorem gX11_rather_119 {E : gx_Env} {d : Nat} (k53 : Nat → Int32 → Int32 → Int32 → Int32 → Int32 → Int32 → Int32 → gx_H → Option (Int32 × gx_H)) (hk53 : ∀ (v0 : Nat) (v1 : Int32) (v2 : Int32) (v3 : Int32) (v4 : Int32) (v5 : Int32) (v6 : Int32) (v7 : Int32) (h : gx_H), gx_G E RX11 cX11_rather 10 (some .int) false (d + 6) 0 0 53 [some (.ref v0), some (.int v1), some (.int v2), some (.int v3), some (.int v4), some (.int v5), some (.int v6), some (.int v7), none, none] [] h (fun x : Int32 => some (.int x)) (k53 v0 v1 v2 v3 v4 v5 v6 v7 h))  (k70 : Nat → Int32 → Int32 → Int32 → Int32 → Int32 → Int32 → Int32 → Int32 → Int32 → gx_H → Option (Int32 × gx_H)) (hk70 : ∀ (v0 : Nat) (v1 : Int32) (v2 : Int32) (v3 : Int32) (v4 : Int32) (v5 : Int32) (v6 : Int32) (v7 : Int32) (v8 : Int32) (v9 : Int32) (h : gx_H), gx_G E RX11 cX11_rather 10 (some .int) false (d + 6) 0 0 70 [some (.ref v0), some (.int v1), some (.int v2), some (.int v3), some (.int v4), some (.int v5), some (.int v6), some (.int v7), some (.int v8), some (.int v9)] [] h (fun x : Int32 => some (.int x)) (k70 v0 v1 v2 v3 v4 v5 v6 v7 v8 v9 h))  : ∀ (v0 : Nat) (v1 : Int32) (v2 : Int32) (v3 : Int32) (v4 : Int32) (v5 : Int32) (v6 : Int32) (v7 : Int32) (v9 : Int32) (s0 : Int32) (s1 : Int32) (h : gx_H), gx_G E RX11 cX11_rather 10 (some .int) false (d + 6) 0 0 119 [some (.ref v0), some (.int v1), some (.int v2), some (.int v3), some (.int v4), some (.int v5), some (.int v6), some (.int v7), none, some (.int v9)] [.int s1, .int s0] h (fun x : Int32 => some (.int x)) (fX11_rather_119 k53 k70 v0 v1 v2 v3 v4 v5 v6 v7 v9 s0 s1 h) := by
  intro v0 v1 v2 v3 v4 v5 v6 v7 v9 s0 s1 h
  unfold fX11_rather_119
  refine gx_iadd dX11_rather_119 ?_
  refine gx_istore [some (.ref v0), some (.int v1), some (.int v2), some (.int v3), some (.int v4), some (.int v5), some (.int v6), some (.int v7), some (.int (s0 + s1)), some (.int v9)] dX11_rather_120 (by decide) rfl ?_
  refine gx_iinc (1 : Int32) [some (.ref v0), some (.int v1), some (.int v2), some (.int v3), some (.int v4), some (.int v5), some (.int v6), some (.int v7), some (.int (s0 + s1)), some (.int (v9 + (1 : Int32)))] dX11_rather_122 rfl (by decide) (by decide) rfl ?_
  refine gx_goto 70 dX11_rather_125 (by decide) ?_
  exact gx_sub (hk70 v0 v1 v2 v3 v4 v5 v6 v7 (s0 + s1) (v9 + (1 : Int32)) h) (And.intro rfl (And.intro rfl (And.intro rfl (And.intro rfl (And.intro rfl (And.intro rfl (And.intro rfl (And.intro rfl (And.intro rfl (And.intro rfl True.intro))))))))))
set_option maxRecDepth 100000 in
set_option maxHeartbeats 4000000 in
theorem gX11_rather_158 {E : gx_Env} {d : Nat} (k53 : Nat → Int32 → Int32 → Int32 → Int32 → Int32 → Int32 → Int32 → gx_H → Option (Int32 × gx_H)) (hk53 : ∀ (v0 : Nat) (v1 : Int32) (v2 : Int32) (v3 : Int32) (v4 : Int32) (v5 : Int32) (v6 : Int32) (v7 : Int32) (h : gx_H), gx_G E RX11 cX11_rather 10 (some .int) false (d + 6) 0 0 53 [some (.ref v0), some (.int v1), some (.int v2), some (.int v3), some (.int v4), some (.int v5), some (.int v6), some (.int v7), none, none] [] h (fun x : Int32 => some (.int x)) (k53 v0 v1 v2 v3 v4 v5 v6 v7 h))  : ∀ (v0 : Nat) (v1 : Int32) (v2 : Int32) (v3 : Int32) (v4 : Int32) (v6 : Int32) (v7 : Int32) (s0 : Int32) (h : gx_H), gx_G E RX11 cX11_rather 10 (some .int) false (d + 6) 0 0 158 [some (.ref v0), some (.int v1), some (.int v2), some (.int v3), some (.int v4), none, some (.int v6), some (.int v7), none, none] [.int s0] h (fun x : Int32 => some (.int x)) (fX11_rather_158 k53 v0 v1 v2 v3 v4 v6 v7 s0 h) := by
  intro v0 v1 v2 v3 v4 v6 v7 s0 h
  unfold fX11_rather_158
  refine gx_istore [some (.ref v0), some (.int v1), some (.int v2), some (.int v3), some (.int v4), some (.int s0), some (.int v6), some (.int v7), none, none] dX11_rather_158 (by decide) rfl ?_
  refine gx_iinc (1 : Int32) [some (.ref v0), some (.int v1), some (.int v2), some (.int v3), some (.int v4), some (.int s0), some (.int v6), some (.int (v7 + (1 : Int32))), none, none] dX11_rather_160 rfl (by decide) (by decide) rfl ?_
  refine gx_goto 53 dX11_rather_163 (by decide) ?_
  exact gx_sub (hk53 v0 v1 v2 v3 v4 s0 v6 (v7 + (1 : Int32)) h) (And.intro rfl (And.intro rfl (And.intro rfl (And.intro rfl (And.intro rfl (And.intro rfl (And.intro rfl (And.intro rfl True.intro))))))))
set_option maxRecDepth 100000 in
set_option maxHeartbeats 4000000 in
theorem gX11_rather_142 {E : gx_Env} {d : Nat} (k53 : Nat → Int32 → Int32 → Int32 → Int32 → Int32 → Int32 → Int32 → gx_H → Option (Int32 × gx_H)) (hk53 : ∀ (v0 : Nat) (v1 : Int32) (v2 : Int32) (v3 : Int32) (v4 : Int32) (v5 : Int32) (v6 : Int32) (v7 : Int32) (h : gx_H), gx_G E RX11 cX11_rather 10 (some .int) false (d + 6) 0 0 53 [some (.ref v0), some (.int v1), some (.int v2), some (.int v3), some (.int v4), some (.int v5), some (.int v6), some (.int v7), none, none] [] h (fun x : Int32 => some (.int x)) (k53 v0 v1 v2 v3 v4 v5 v6 v7 h))  : ∀ (v0 : Nat) (v1 : Int32) (v2 : Int32) (v3 : Int32) (v5 : Int32) (v6 : Int32) (v7 : Int32) (v8 : Int32) (s0 : Int32) (h : gx_H), gx_G E RX11 cX11_rather 10 (some .int) false (d + 6) 0 0 142 [some (.ref v0), some (.int v1), some (.int v2), some (.int v3), none, some (.int v5), some (.int v6), some (.int v7), some (.int v8), none] [.int s0] h (fun x : Int32 => some (.int x)) (fX11_rather_142 k53 v0 v1 v2 v3 v5 v6 v7 v8 s0 h) := by
  intro v0 v1 v2 v3 v5 v6 v7 v8 s0 h
  unfold fX11_rather_142
  refine gx_istore [some (.ref v0), some (.int v1), some (.int v2), some (.int v3), some (.int s0), some (.int v5), some (.int v6), some (.int v7), some (.int v8), none] dX11_rather_142 (by decide) rfl ?_
  refine gx_iload dX11_rather_144 rfl ?_
  refine gx_iload dX11_rather_146 rfl ?_
  refine gx_icmp_lt 156 dX11_rather_148 (by decide) (fun _ => ?_) (fun _ => ?_)
  · refine gx_iload dX11_rather_156 rfl ?_
    exact gx_sub (gX11_rather_158 k53 hk53 v0 v1 v2 v3 s0 v6 v7 v5 h) (And.intro rfl (And.intro rfl (And.intro rfl (And.intro rfl (And.intro rfl (And.intro rfl (And.intro rfl True.intro)))))))
  · refine gx_iload dX11_rather_151 rfl ?_
    refine gx_goto 158 dX11_rather_153 (by decide) ?_
    exact gx_sub (gX11_rather_158 k53 hk53 v0 v1 v2 v3 s0 v6 v7 v8 h) (And.intro rfl (And.intro rfl (And.intro rfl (And.intro rfl (And.intro rfl (And.intro rfl (And.intro rfl True.intro)))))))
set_option maxRecDepth 100000 in
set_option maxHeartbeats 4000000 in
theorem gbX11_rather_70 {E : gx_Env} {d : Nat} (k53 : Nat → Int32 → Int32 → Int32 → Int32 → Int32 → Int32 → Int32 → gx_H → Option (Int32 × gx_H)) (hk53 : ∀ (v0 : Nat) (v1 : Int32) (v2 : Int32) (v3 : Int32) (v4 : Int32) (v5 : Int32) (v6 : Int32) (v7 : Int32) (h : gx_H), gx_G E RX11 cX11_rather 10 (some .int) false (d + 6) 0 0 53 [some (.ref v0), some (.int v1), some (.int v2), some (.int v3), some (.int v4), some (.int v5), some (.int v6), some (.int v7), none, none] [] h (fun x : Int32 => some (.int x)) (k53 v0 v1 v2 v3 v4 v5 v6 v7 h))  (k70 : Nat → Int32 → Int32 → Int32 → Int32 → Int32 → Int32 → Int32 → Int32 → Int32 → gx_H → Option (Int32 × gx_H)) (hk70 : ∀ (v0 : Nat) (v1 : Int32) (v2 : Int32) (v3 : Int32) (v4 : Int32) (v5 : Int32) (v6 : Int32) (v7 : Int32) (v8 : Int32) (v9 : Int32) (h : gx_H), gx_G E RX11 cX11_rather 10 (some .int) false (d + 6) 0 0 70 [some (.ref v0), some (.int v1), some (.int v2), some (.int v3), some (.int v4), some (.int v5), some (.int v6), some (.int v7), some (.int v8), some (.int v9)] [] h (fun x : Int32 => some (.int x)) (k70 v0 v1 v2 v3 v4 v5 v6 v7 v8 v9 h))  : ∀ (v0 : Nat) (v1 : Int32) (v2 : Int32) (v3 : Int32) (v4 : Int32) (v5 : Int32) (v6 : Int32) (v7 : Int32) (v8 : Int32) (v9 : Int32) (h : gx_H), gx_G E RX11 cX11_rather 10 (some .int) false (d + 6) 0 0 70 [some (.ref v0), some (.int v1), some (.int v2), some (.int v3), some (.int v4), some (.int v5), some (.int v6), some (.int v7), some (.int v8), some (.int v9)] [] h (fun x : Int32 => some (.int x)) (bX11_rather_70 k53 k70 v0 v1 v2 v3 v4 v5 v6 v7 v8 v9 h) := by
  intro v0 v1 v2 v3 v4 v5 v6 v7 v8 v9 h
  unfold bX11_rather_70
  refine gx_iload dX11_rather_70 rfl ?_
  refine gx_iload dX11_rather_72 rfl ?_
  refine gx_icmp_ge 128 dX11_rather_74 (by decide) (fun _ => ?_) (fun _ => ?_)
  · refine gx_iload dX11_rather_128 rfl ?_
    refine gx_iload dX11_rather_130 rfl ?_
    refine gx_icmp_lt 140 dX11_rather_132 (by decide) (fun _ => ?_) (fun _ => ?_)
    · refine gx_iload dX11_rather_140 rfl ?_
      exact gx_sub (gX11_rather_142 k53 hk53 v0 v1 v2 v3 v5 v6 v7 v8 v4 h) (And.intro rfl (And.intro rfl (And.intro rfl (And.intro rfl (And.intro rfl (And.intro rfl (And.intro rfl (And.intro rfl True.intro))))))))
    · refine gx_iload dX11_rather_135 rfl ?_
      refine gx_goto 142 dX11_rather_137 (by decide) ?_
      exact gx_sub (gX11_rather_142 k53 hk53 v0 v1 v2 v3 v5 v6 v7 v8 v7 h) (And.intro rfl (And.intro rfl (And.intro rfl (And.intro rfl (And.intro rfl (And.intro rfl (And.intro rfl (And.intro rfl True.intro))))))))
  · refine gx_aload_n 0 dX11_rather_77 rfl rfl ?_
    refine gx_callV (ci := 9) (bc := 0) (bs := 0) (mc := 0) (ms := 0) (em' := (fun _ : Unit => none)) [] kc_RX11_208 rfl dX11_rather_78 rfl rfl (gx_w8 rfl) (fun x q => (gx_isO_of (by unfold fX11_tries at q; exact q)).2) (fun _ _ q => okX11_tries (d + 5) q) (fun u14 h13 => ?_)
    refine gx_aload_n 0 dX11_rather_81 rfl rfl ?_
    refine gx_getR kf_RX11_7 dX11_rather_82 (fun a15 => ?_)
    refine gx_sipush (844 : Int32) dX11_rather_85 (by decide) ?_
    refine gx_iload_n 1 dX11_rather_88 rfl rfl ?_
    refine gx_iadd dX11_rather_89 ?_
    refine gx_iload dX11_rather_90 rfl ?_
    refine gx_iast dX11_rather_92 (fun h16 => ?_)
    refine gx_aload_n 0 dX11_rather_93 rfl rfl ?_
    refine gx_iload_n 1 dX11_rather_94 rfl rfl ?_
    refine gx_iload dX11_rather_95 rfl ?_
    refine gx_iload_n 2 dX11_rather_97 rfl rfl ?_
    refine gx_callV (ci := 9) (bc := 0) (bs := 0) (mc := 0) (ms := 0) (em' := (fun _ : Unit => none)) [.int v1, .int v9, .int v2] kc_RX11_211 rfl dX11_rather_98 rfl rfl (gx_w8 rfl) (fun x q => (gx_isO_of (by unfold fX11_plays at q; exact q)).2) (fun _ _ q => okX11_plays d q) (fun u18 h17 => ?_)
    refine gx_iload dX11_rather_101 rfl ?_
    refine gx_aload_n 0 dX11_rather_103 rfl rfl ?_
    refine gx_sipush (812 : Int32) dX11_rather_104 (by decide) ?_
    refine gx_iload_n 1 dX11_rather_107 rfl rfl ?_
    refine gx_callV (ci := 9) (bc := 0) (bs := 0) (mc := 0) (ms := 0) (em' := (fun x : Int32 => some (.int x))) [.int (812 : Int32), .int v1] kc_RX11_57 rfl dX11_rather_108 rfl rfl (gx_w8 rfl) (fun x q => (gx_isO_of (by unfold fX11_isHome at q; exact q)).2) (fun _ _ q => okX11_isHome (d + 5) q) (fun x20 h19 => ?_)
    refine gx_if_eq 118 dX11_rather_111 (by decide) (fun _ => ?_) (fun _ => ?_)
    · refine gx_iconst (0 : Int32) dX11_rather_118 (by decide) ?_
      exact gx_sub (gX11_rather_119 k53 hk53 k70 hk70 v0 v1 v2 v3 v4 v5 v6 v7 v9 v8 (0 : Int32) h19) (And.intro rfl (And.intro rfl (And.intro rfl (And.intro rfl (And.intro rfl (And.intro rfl (And.intro rfl (And.intro rfl (And.intro rfl True.intro)))))))))
    · refine gx_iconst (1 : Int32) dX11_rather_114 (by decide) ?_
      refine gx_goto 119 dX11_rather_115 (by decide) ?_
      exact gx_sub (gX11_rather_119 k53 hk53 k70 hk70 v0 v1 v2 v3 v4 v5 v6 v7 v9 v8 (1 : Int32) h19) (And.intro rfl (And.intro rfl (And.intro rfl (And.intro rfl (And.intro rfl (And.intro rfl (And.intro rfl (And.intro rfl (And.intro rfl True.intro)))))))))
set_option maxRecDepth 100000 in
set_option maxHeartbeats 4000000 in
theorem gX11_rather_70 {E : gx_Env} {d : Nat} (k53 : Nat → Int32 → Int32 → Int32 → Int32 → Int32 → Int32 → Int32 → gx_H → Option (Int32 × gx_H)) (hk53 : ∀ (v0 : Nat) (v1 : Int32) (v2 : Int32) (v3 : Int32) (v4 : Int32) (v5 : Int32) (v6 : Int32) (v7 : Int32) (h : gx_H), gx_G E RX11 cX11_rather 10 (some .int) false (d + 6) 0 0 53 [some (.ref v0), some (.int v1), some (.int v2), some (.int v3), some (.int v4), some (.int v5), some (.int v6), some (.int v7), none, none] [] h (fun x : Int32 => some (.int x)) (k53 v0 v1 v2 v3 v4 v5 v6 v7 h))  : ∀ (n : Nat) (v0 : Nat) (v1 : Int32) (v2 : Int32) (v3 : Int32) (v4 : Int32) (v5 : Int32) (v6 : Int32) (v7 : Int32) (v8 : Int32) (v9 : Int32) (h : gx_H), gx_G E RX11 cX11_rather 10 (some .int) false (d + 6) 0 0 70 [some (.ref v0), some (.int v1), some (.int v2), some (.int v3), some (.int v4), some (.int v5), some (.int v6), some (.int v7), some (.int v8), some (.int v9)] [] h (fun x : Int32 => some (.int x)) (fX11_rather_70 k53 n v0 v1 v2 v3 v4 v5 v6 v7 v8 v9 h) := by
  intro n
  induction n with
  | zero => intro v0 v1 v2 v3 v4 v5 v6 v7 v8 v9 h; exact gx_none
  | succ n ih => exact gbX11_rather_70 k53 hk53 (fX11_rather_70 k53 n) ih
set_option maxRecDepth 100000 in
set_option maxHeartbeats 4000000 in
theorem gX11_rather_177 {E : gx_Env} {d : Nat}  : ∀ (s0 : Int32) (h : gx_H), gx_G E RX11 cX11_rather 10 (some .int) false (d + 6) 0 0 177 [none, none, none, none, none, none, none, none, none, none] [.int s0] h (fun x : Int32 => some (.int x)) (fX11_rather_177 s0 h) := by
  intro s0 h
  unfold fX11_rather_177
  exact gx_iret dX11_rather_177 rfl
set_option maxRecDepth 100000 in
set_option maxHeartbeats 4000000 in
theorem gbX11_rather_53 {E : gx_Env} {d : Nat}  (k53 : Nat → Int32 → Int32 → Int32 → Int32 → Int32 → Int32 → Int32 → gx_H → Option (Int32 × gx_H)) (hk53 : ∀ (v0 : Nat) (v1 : Int32) (v2 : Int32) (v3 : Int32) (v4 : Int32) (v5 : Int32) (v6 : Int32) (v7 : Int32) (h : gx_H), gx_G E RX11 cX11_rather 10 (some .int) false (d + 6) 0 0 53 [some (.ref v0), some (.int v1), some (.int v2), some (.int v3), some (.int v4), some (.int v5), some (.int v6), some (.int v7), none, none] [] h (fun x : Int32 => some (.int x)) (k53 v0 v1 v2 v3 v4 v5 v6 v7 h))  : ∀ (v0 : Nat) (v1 : Int32) (v2 : Int32) (v3 : Int32) (v4 : Int32) (v5 : Int32) (v6 : Int32) (v7 : Int32) (h : gx_H), gx_G E RX11 cX11_rather 10 (some .int) false (d + 6) 0 0 53 [some (.ref v0), some (.int v1), some (.int v2), some (.int v3), some (.int v4), some (.int v5), some (.int v6), some (.int v7), none, none] [] h (fun x : Int32 => some (.int x)) (bX11_rather_53 k53 v0 v1 v2 v3 v4 v5 v6 v7 h) := by
  intro v0 v1 v2 v3 v4 v5 v6 v7 h
  unfold bX11_rather_53
  refine gx_iload dX11_rather_53 rfl ?_
  refine gx_aload_n 0 dX11_rather_55 rfl rfl ?_
  refine gx_getR kf_RX11_7 dX11_rather_56 (fun a11 => ?_)
  refine gx_iconst (0 : Int32) dX11_rather_59 (by decide) ?_
  refine gx_iald dX11_rather_60 (fun x12 => ?_)
  refine gx_icmp_ge 166 dX11_rather_61 (by decide) (fun _ => ?_) (fun _ => ?_)
  · refine gx_iload_n 3 dX11_rather_166 rfl rfl ?_
    refine gx_if_ne 175 dX11_rather_167 (by decide) (fun _ => ?_) (fun _ => ?_)
    · refine gx_iload dX11_rather_175 rfl ?_
      exact gx_sub (gX11_rather_177 v5 h) True.intro
    · refine gx_iload dX11_rather_170 rfl ?_
      refine gx_goto 177 dX11_rather_172 (by decide) ?_
      exact gx_sub (gX11_rather_177 v4 h) True.intro
  · refine gx_iconst (0 : Int32) dX11_rather_64 (by decide) ?_
    refine gx_istore [some (.ref v0), some (.int v1), some (.int v2), some (.int v3), some (.int v4), some (.int v5), some (.int v6), some (.int v7), some (.int (0 : Int32)), none] dX11_rather_65 (by decide) rfl ?_
    refine gx_iconst (0 : Int32) dX11_rather_67 (by decide) ?_
    refine gx_istore [some (.ref v0), some (.int v1), some (.int v2), some (.int v3), some (.int v4), some (.int v5), some (.int v6), some (.int v7), some (.int (0 : Int32)), some (.int (0 : Int32))] dX11_rather_68 (by decide) rfl ?_
    exact gx_sub (gX11_rather_70 k53 hk53 gx_N v0 v1 v2 v3 v4 v5 v6 v7 (0 : Int32) (0 : Int32) h) (And.intro rfl (And.intro rfl (And.intro rfl (And.intro rfl (And.intro rfl (And.intro rfl (And.intro rfl (And.intro rfl (And.intro rfl (And.intro rfl True.intro))))))))))
set_option maxRecDepth 100000 in
set_option maxHeartbeats 4000000 in
theorem gX11_rather_53 {E : gx_Env} {d : Nat}  : ∀ (n : Nat) (v0 : Nat) (v1 : Int32) (v2 : Int32) (v3 : Int32) (v4 : Int32) (v5 : Int32) (v6 : Int32) (v7 : Int32) (h : gx_H), gx_G E RX11 cX11_rather 10 (some .int) false (d + 6) 0 0 53 [some (.ref v0), some (.int v1), some (.int v2), some (.int v3), some (.int v4), some (.int v5), some (.int v6), some (.int v7), none, none] [] h (fun x : Int32 => some (.int x)) (fX11_rather_53 n v0 v1 v2 v3 v4 v5 v6 v7 h) := by
  intro n
  induction n with
  | zero => intro v0 v1 v2 v3 v4 v5 v6 v7 h; exact gx_none
  | succ n ih => exact gbX11_rather_53  (fX11_rather_53  n) ih
set_option maxRecDepth 100000 in
set_option maxHeartbeats 4000000 in
theorem geX11_rather {E : gx_Env} {d : Nat} (v0 : Nat) (v1 : Int32) (v2 : Int32) (v3 : Int32) (h : gx_H) : gx_G E RX11 cX11_rather 10 (some .int) false (d + 6) 0 0 0 [some (.ref v0), some (.int v1), some (.int v2), some (.int v3), none, none, none, none, none, none] [] h (fun x : Int32 => some (.int x)) (fX11_rather v0 v1 v2 v3 h) := by
  unfold fX11_rather
  refine gx_bind fun _ _ => ?_
  refine gx_aload_n 0 dX11_rather_0 rfl rfl ?_
  refine gx_iload_n 1 dX11_rather_1 rfl rfl ?_
  refine gx_callV (ci := 9) (bc := 0) (bs := 0) (mc := 0) (ms := 0) (em' := (fun x : Int32 => some (.int x))) [.int v1] kc_RX11_185 rfl dX11_rather_2 rfl rfl (gx_w8 rfl) (fun x q => (gx_isO_of (by unfold fX11_isPlayer at q; exact q)).2) (fun _ _ q => okX11_isPlayer (d + 4) q) (fun x2 h1 => ?_)
  refine gx_if_eq 30 dX11_rather_5 (by decide) (fun _ => ?_) (fun _ => ?_)
  · exact gx_sub (gX11_rather_30 v0 h1) (And.intro rfl True.intro)
  · refine gx_iload_n 2 dX11_rather_8 rfl rfl ?_
    refine gx_i2l dX11_rather_9 ?_
    refine gx_lconst (1 : Int64) dX11_rather_10 (by decide) ?_
    refine gx_ldc2 kk_RX11_218 dX11_rather_11 ?_
    refine gx_callS (bc := 0) (bs := 0) (mc := 0) (ms := 0) (em' := (fun x : Int32 => some (.int x))) [.long ((v2).toInt64), .long (1 : Int64), .long (4 : Int64)] kc_RX11_39 dX11_rather_14 rfl rfl (gx_w8 rfl) (fun _ _ q => okX11_in (d + 5) q) (fun x4 h3 => ?_)
    refine gx_if_eq 30 dX11_rather_17 (by decide) (fun _ => ?_) (fun _ => ?_)
    · exact gx_sub (gX11_rather_30 v0 h3) (And.intro rfl True.intro)
    · refine gx_iload_n 3 dX11_rather_20 rfl rfl ?_
      refine gx_i2l dX11_rather_21 ?_
      refine gx_lconst (0 : Int64) dX11_rather_22 (by decide) ?_
      refine gx_lconst (1 : Int64) dX11_rather_23 (by decide) ?_
      refine gx_callS (bc := 0) (bs := 0) (mc := 0) (ms := 0) (em' := (fun x : Int32 => some (.int x))) [.long ((v3).toInt64), .long (0 : Int64), .long (1 : Int64)] kc_RX11_39 dX11_rather_24 rfl rfl (gx_w8 rfl) (fun _ _ q => okX11_in (d + 5) q) (fun x6 h5 => ?_)
      refine gx_if_ne 37 dX11_rather_27 (by decide) (fun _ => ?_) (fun _ => ?_)
      · refine gx_iconst (0 : Int32) dX11_rather_37 (by decide) ?_
        refine gx_istore [some (.ref v0), some (.int v1), some (.int v2), some (.int v3), some (.int (0 : Int32)), none, none, none, none, none] dX11_rather_38 (by decide) rfl ?_
        refine gx_iconst (-1 : Int32) dX11_rather_40 (by decide) ?_
        refine gx_istore [some (.ref v0), some (.int v1), some (.int v2), some (.int v3), some (.int (0 : Int32)), some (.int (-1 : Int32)), none, none, none, none] dX11_rather_41 (by decide) rfl ?_
        refine gx_aload_n 0 dX11_rather_43 rfl rfl ?_
        refine gx_iload_n 2 dX11_rather_44 rfl rfl ?_
        refine gx_callV (ci := 9) (bc := 0) (bs := 0) (mc := 0) (ms := 0) (em' := (fun x : Int32 => some (.int x))) [.int v2] kc_RX11_202 rfl dX11_rather_45 rfl rfl (gx_w8 rfl) (fun x q => (gx_isO_of (by unfold fX11_rowsOf at q; exact q)).2) (fun _ _ q => okX11_rowsOf (d + 5) q) (fun x8 h7 => ?_)
        refine gx_istore [some (.ref v0), some (.int v1), some (.int v2), some (.int v3), some (.int (0 : Int32)), some (.int (-1 : Int32)), some (.int x8), none, none, none] dX11_rather_48 (by decide) rfl ?_
        refine gx_iconst (0 : Int32) dX11_rather_50 (by decide) ?_
        refine gx_istore [some (.ref v0), some (.int v1), some (.int v2), some (.int v3), some (.int (0 : Int32)), some (.int (-1 : Int32)), some (.int x8), some (.int (0 : Int32)), none, none] dX11_rather_51 (by decide) rfl ?_
        exact gx_sub (gX11_rather_53 gx_N v0 v1 v2 v3 (0 : Int32) (-1 : Int32) x8 (0 : Int32) h7) (And.intro rfl (And.intro rfl (And.intro rfl (And.intro rfl (And.intro rfl (And.intro rfl (And.intro rfl (And.intro rfl True.intro))))))))
      · exact gx_sub (gX11_rather_30 v0 h5) (And.intro rfl True.intro)
theorem okX11_rather {E : gx_Env} (d : Nat) {v0 : Nat} {v1 : Int32} {v2 : Int32} {v3 : Int32} {h : gx_H} {r : Int32} {h1 : gx_H} (q : fX11_rather v0 v1 v2 v3 h = some (r, h1)) : gx_M E yX11_rather cX11_rather 10 (some .int) (d + 6) 0 0 [.ref v0, .int v1, .int v2, .int v3] h ((fun x : Int32 => some (.int x)) r) h1 := gx_meth (y := yX11_rather) (cc := cX11_rather) (nL := 10) (em := (fun x : Int32 => some (.int x))) (ini := false) [.ref v0, .int v1, .int v2, .int v3] (by decide) (by simp [gx_sl]) (fun q => by cases q) (geX11_rather v0 v1 v2 v3 h) q
theorem dX11_without_0 : decode cX11_without 0 = .ok (.aload_n 0, 1) := by decide +kernel
theorem dX11_without_1 : decode cX11_without 1 = .ok (.iload_n 1, 1) := by decide +kernel
theorem dX11_without_2 : decode cX11_without 2 = .ok (.invokevirtual 185, 3) := by decide +kernel
theorem dX11_without_5 : decode cX11_without 5 = .ok (.ifCond .eq 25, 3) := by decide +kernel
theorem dX11_without_8 : decode cX11_without 8 = .ok (.iload_n 2, 1) := by decide +kernel
theorem dX11_without_9 : decode cX11_without 9 = .ok (.i2l, 1) := by decide +kernel
theorem dX11_without_10 : decode cX11_without 10 = .ok (.lconst 1, 1) := by decide +kernel
theorem dX11_without_11 : decode cX11_without 11 = .ok (.ldc2_w 218, 3) := by decide +kernel
theorem dX11_without_14 : decode cX11_without 14 = .ok (.invokestatic 39, 3) := by decide +kernel
theorem dX11_without_17 : decode cX11_without 17 = .ok (.ifCond .eq 13, 3) := by decide +kernel
theorem dX11_without_20 : decode cX11_without 20 = .ok (.iload_n 3, 1) := by decide +kernel
theorem dX11_without_21 : decode cX11_without 21 = .ok (.i2l, 1) := by decide +kernel
theorem dX11_without_22 : decode cX11_without 22 = .ok (.lconst 0, 1) := by decide +kernel
theorem dX11_without_23 : decode cX11_without 23 = .ok (.lconst 1, 1) := by decide +kernel
theorem dX11_without_24 : decode cX11_without 24 = .ok (.invokestatic 39, 3) := by decide +kernel
theorem dX11_without_27 : decode cX11_without 27 = .ok (.ifCond .ne 10, 3) := by decide +kernel
theorem dX11_without_30 : decode cX11_without 30 = .ok (.aload_n 0, 1) := by decide +kernel
theorem dX11_without_31 : decode cX11_without 31 = .ok (.bipush (-2), 2) := by decide +kernel
theorem dX11_without_33 : decode cX11_without 33 = .ok (.invokevirtual 81, 3) := by decide +kernel
theorem dX11_without_36 : decode cX11_without 36 = .ok (.ireturn, 1) := by decide +kernel
theorem dX11_without_37 : decode cX11_without 37 = .ok (.iconst (-1), 1) := by decide +kernel
theorem dX11_without_38 : decode cX11_without 38 = .ok (.istore 4, 2) := by decide +kernel
theorem dX11_without_40 : decode cX11_without 40 = .ok (.iconst (-1), 1) := by decide +kernel
theorem dX11_without_41 : decode cX11_without 41 = .ok (.istore 5, 2) := by decide +kernel
theorem dX11_without_43 : decode cX11_without 43 = .ok (.aload_n 0, 1) := by decide +kernel
theorem dX11_without_44 : decode cX11_without 44 = .ok (.iload_n 2, 1) := by decide +kernel
theorem dX11_without_45 : decode cX11_without 45 = .ok (.invokevirtual 202, 3) := by decide +kernel
theorem dX11_without_48 : decode cX11_without 48 = .ok (.istore 6, 2) := by decide +kernel
theorem dX11_without_50 : decode cX11_without 50 = .ok (.iconst 0, 1) := by decide +kernel
theorem dX11_without_51 : decode cX11_without 51 = .ok (.istore 7, 2) := by decide +kernel
theorem dX11_without_53 : decode cX11_without 53 = .ok (.iload 7, 2) := by decide +kernel
theorem dX11_without_55 : decode cX11_without 55 = .ok (.aload_n 0, 1) := by decide +kernel
theorem dX11_without_56 : decode cX11_without 56 = .ok (.getfield 7, 3) := by decide +kernel
theorem dX11_without_59 : decode cX11_without 59 = .ok (.iconst 2, 1) := by decide +kernel
theorem dX11_without_60 : decode cX11_without 60 = .ok (.iaload, 1) := by decide +kernel
theorem dX11_without_61 : decode cX11_without 61 = .ok (.if_icmp .ge 105, 3) := by decide +kernel
theorem dX11_without_64 : decode cX11_without 64 = .ok (.iconst 0, 1) := by decide +kernel
theorem dX11_without_65 : decode cX11_without 65 = .ok (.istore 8, 2) := by decide +kernel
theorem dX11_without_67 : decode cX11_without 67 = .ok (.iconst 0, 1) := by decide +kernel
theorem dX11_without_68 : decode cX11_without 68 = .ok (.istore 9, 2) := by decide +kernel
theorem dX11_without_70 : decode cX11_without 70 = .ok (.iload 9, 2) := by decide +kernel
theorem dX11_without_72 : decode cX11_without 72 = .ok (.iload 6, 2) := by decide +kernel
theorem dX11_without_74 : decode cX11_without 74 = .ok (.if_icmp .ge 54, 3) := by decide +kernel
theorem dX11_without_77 : decode cX11_without 77 = .ok (.aload_n 0, 1) := by decide +kernel
theorem dX11_without_78 : decode cX11_without 78 = .ok (.invokevirtual 208, 3) := by decide +kernel
theorem dX11_without_81 : decode cX11_without 81 = .ok (.aload_n 0, 1) := by decide +kernel
theorem dX11_without_82 : decode cX11_without 82 = .ok (.getfield 7, 3) := by decide +kernel
theorem dX11_without_85 : decode cX11_without 85 = .ok (.sipush 822, 3) := by decide +kernel
theorem dX11_without_88 : decode cX11_without 88 = .ok (.iload 7, 2) := by decide +kernel
theorem dX11_without_90 : decode cX11_without 90 = .ok (.iadd, 1) := by decide +kernel
theorem dX11_without_91 : decode cX11_without 91 = .ok (.iconst (-1), 1) := by decide +kernel
theorem dX11_without_92 : decode cX11_without 92 = .ok (.iastore, 1) := by decide +kernel
theorem dX11_without_93 : decode cX11_without 93 = .ok (.aload_n 0, 1) := by decide +kernel
theorem dX11_without_94 : decode cX11_without 94 = .ok (.iload_n 1, 1) := by decide +kernel
theorem dX11_without_95 : decode cX11_without 95 = .ok (.iload 9, 2) := by decide +kernel
theorem dX11_without_97 : decode cX11_without 97 = .ok (.iload_n 2, 1) := by decide +kernel
theorem dX11_without_98 : decode cX11_without 98 = .ok (.invokevirtual 211, 3) := by decide +kernel
theorem dX11_without_101 : decode cX11_without 101 = .ok (.iload 8, 2) := by decide +kernel
theorem dX11_without_103 : decode cX11_without 103 = .ok (.aload_n 0, 1) := by decide +kernel
theorem dX11_without_104 : decode cX11_without 104 = .ok (.sipush 812, 3) := by decide +kernel
theorem dX11_without_107 : decode cX11_without 107 = .ok (.iload_n 1, 1) := by decide +kernel
theorem dX11_without_108 : decode cX11_without 108 = .ok (.invokevirtual 57, 3) := by decide +kernel
theorem dX11_without_111 : decode cX11_without 111 = .ok (.ifCond .eq 7, 3) := by decide +kernel
theorem dX11_without_114 : decode cX11_without 114 = .ok (.iconst 1, 1) := by decide +kernel
theorem dX11_without_115 : decode cX11_without 115 = .ok (.goto 4, 3) := by decide +kernel
theorem dX11_without_118 : decode cX11_without 118 = .ok (.iconst 0, 1) := by decide +kernel
theorem dX11_without_119 : decode cX11_without 119 = .ok (.iadd, 1) := by decide +kernel
theorem dX11_without_120 : decode cX11_without 120 = .ok (.istore 8, 2) := by decide +kernel
theorem dX11_without_122 : decode cX11_without 122 = .ok (.iinc 9 1, 3) := by decide +kernel
theorem dX11_without_125 : decode cX11_without 125 = .ok (.goto (-55), 3) := by decide +kernel
theorem dX11_without_128 : decode cX11_without 128 = .ok (.iload 8, 2) := by decide +kernel
theorem dX11_without_130 : decode cX11_without 130 = .ok (.iload 5, 2) := by decide +kernel
theorem dX11_without_132 : decode cX11_without 132 = .ok (.if_icmp .le 8, 3) := by decide +kernel
theorem dX11_without_135 : decode cX11_without 135 = .ok (.iload 7, 2) := by decide +kernel
theorem dX11_without_137 : decode cX11_without 137 = .ok (.goto 5, 3) := by decide +kernel
theorem dX11_without_140 : decode cX11_without 140 = .ok (.iload 4, 2) := by decide +kernel
theorem dX11_without_142 : decode cX11_without 142 = .ok (.istore 4, 2) := by decide +kernel
theorem dX11_without_144 : decode cX11_without 144 = .ok (.iload 8, 2) := by decide +kernel
theorem dX11_without_146 : decode cX11_without 146 = .ok (.iload 5, 2) := by decide +kernel
theorem dX11_without_148 : decode cX11_without 148 = .ok (.if_icmp .le 8, 3) := by decide +kernel
theorem dX11_without_151 : decode cX11_without 151 = .ok (.iload 8, 2) := by decide +kernel
theorem dX11_without_153 : decode cX11_without 153 = .ok (.goto 5, 3) := by decide +kernel
theorem dX11_without_156 : decode cX11_without 156 = .ok (.iload 5, 2) := by decide +kernel
theorem dX11_without_158 : decode cX11_without 158 = .ok (.istore 5, 2) := by decide +kernel
theorem dX11_without_160 : decode cX11_without 160 = .ok (.iinc 7 1, 3) := by decide +kernel
theorem dX11_without_163 : decode cX11_without 163 = .ok (.goto (-110), 3) := by decide +kernel
theorem dX11_without_166 : decode cX11_without 166 = .ok (.iload_n 3, 1) := by decide +kernel
theorem dX11_without_167 : decode cX11_without 167 = .ok (.ifCond .ne 8, 3) := by decide +kernel
theorem dX11_without_170 : decode cX11_without 170 = .ok (.iload 4, 2) := by decide +kernel
theorem dX11_without_172 : decode cX11_without 172 = .ok (.goto 5, 3) := by decide +kernel
theorem dX11_without_175 : decode cX11_without 175 = .ok (.iload 5, 2) := by decide +kernel
theorem dX11_without_177 : decode cX11_without 177 = .ok (.ireturn, 1) := by decide +kernel
def fX11_without_30 (v0 : Nat) (h : gx_H) : Option (Int32 × gx_H) :=
  gx_bd (fX11_bad v0 (-2 : Int32) h) fun x10 h9 =>
  some (x10, h9)
def fX11_without_119 (k53 : Nat → Int32 → Int32 → Int32 → Int32 → Int32 → Int32 → Int32 → gx_H → Option (Int32 × gx_H)) (k70 : Nat → Int32 → Int32 → Int32 → Int32 → Int32 → Int32 → Int32 → Int32 → Int32 → gx_H → Option (Int32 × gx_H)) (v0 : Nat) (v1 : Int32) (v2 : Int32) (v3 : Int32) (v4 : Int32) (v5 : Int32) (v6 : Int32) (v7 : Int32) (v9 : Int32) (s0 : Int32) (s1 : Int32) (h : gx_H) : Option (Int32 × gx_H) :=
  k70 v0 v1 v2 v3 v4 v5 v6 v7 (s0 + s1) (v9 + (1 : Int32)) h
def fX11_without_158 (k53 : Nat → Int32 → Int32 → Int32 → Int32 → Int32 → Int32 → Int32 → gx_H → Option (Int32 × gx_H)) (v0 : Nat) (v1 : Int32) (v2 : Int32) (v3 : Int32) (v4 : Int32) (v6 : Int32) (v7 : Int32) (s0 : Int32) (h : gx_H) : Option (Int32 × gx_H) :=
  k53 v0 v1 v2 v3 v4 s0 v6 (v7 + (1 : Int32)) h
def fX11_without_142 (k53 : Nat → Int32 → Int32 → Int32 → Int32 → Int32 → Int32 → Int32 → gx_H → Option (Int32 × gx_H)) (v0 : Nat) (v1 : Int32) (v2 : Int32) (v3 : Int32) (v5 : Int32) (v6 : Int32) (v7 : Int32) (v8 : Int32) (s0 : Int32) (h : gx_H) : Option (Int32 × gx_H) :=
  if v8 ≤ v5 then
    fX11_without_158 k53 v0 v1 v2 v3 s0 v6 v7 v5 h
  else
    fX11_without_158 k53 v0 v1 v2 v3 s0 v6 v7 v8 h
def bX11_without_70 (k53 : Nat → Int32 → Int32 → Int32 → Int32 → Int32 → Int32 → Int32 → gx_H → Option (Int32 × gx_H)) (k70 : Nat → Int32 → Int32 → Int32 → Int32 → Int32 → Int32 → Int32 → Int32 → Int32 → gx_H → Option (Int32 × gx_H)) (v0 : Nat) (v1 : Int32) (v2 : Int32) (v3 : Int32) (v4 : Int32) (v5 : Int32) (v6 : Int32) (v7 : Int32) (v8 : Int32) (v9 : Int32) (h : gx_H) : Option (Int32 × gx_H) :=
  if v6 ≤ v9 then
    if v8 ≤ v5 then
      fX11_without_142 k53 v0 v1 v2 v3 v5 v6 v7 v8 v4 h
    else
      fX11_without_142 k53 v0 v1 v2 v3 v5 v6 v7 v8 v7 h
  else
    gx_bd (fX11_tries v0 h) fun u14 h13 =>
    (gx_fR h13 v0 9 0).bind fun a15 =>
    (gx_sI 0 h13 a15 ((822 : Int32) + v7) (-1 : Int32)).bind fun h16 =>
    gx_bd (fX11_plays v0 v1 v9 v2 h16) fun u18 h17 =>
    gx_bd (fX11_isHome v0 (812 : Int32) v1 h17) fun x20 h19 =>
    if x20 = 0 then
      fX11_without_119 k53 k70 v0 v1 v2 v3 v4 v5 v6 v7 v9 v8 (0 : Int32) h19
    else
      fX11_without_119 k53 k70 v0 v1 v2 v3 v4 v5 v6 v7 v9 v8 (1 : Int32) h19
def fX11_without_70 (k53 : Nat → Int32 → Int32 → Int32 → Int32 → Int32 → Int32 → Int32 → gx_H → Option (Int32 × gx_H)) : Nat → Nat → Int32 → Int32 → Int32 → Int32 → Int32 → Int32 → Int32 → Int32 → Int32 → gx_H → Option (Int32 × gx_H)
  | 0 => fun _ _ _ _ _ _ _ _ _ _ _ => none
  | n + 1 => bX11_without_70 k53 (fX11_without_70 k53 n)
def fX11_without_177 (s0 : Int32) (h : gx_H) : Option (Int32 × gx_H) :=
  some (s0, h)
def bX11_without_53 (k53 : Nat → Int32 → Int32 → Int32 → Int32 → Int32 → Int32 → Int32 → gx_H → Option (Int32 × gx_H)) (v0 : Nat) (v1 : Int32) (v2 : Int32) (v3 : Int32) (v4 : Int32) (v5 : Int32) (v6 : Int32) (v7 : Int32) (h : gx_H) : Option (Int32 × gx_H) :=
  (gx_fR h v0 9 0).bind fun a11 =>
  (gx_aI 0 h a11 (2 : Int32)).bind fun x12 =>
  if x12 ≤ v7 then
    if v3 = 0 then
      fX11_without_177 v4 h
    else
      fX11_without_177 v5 h
  else
    fX11_without_70 k53 gx_N v0 v1 v2 v3 v4 v5 v6 v7 (0 : Int32) (0 : Int32) h
def fX11_without_53 : Nat → Nat → Int32 → Int32 → Int32 → Int32 → Int32 → Int32 → Int32 → gx_H → Option (Int32 × gx_H)
  | 0 => fun _ _ _ _ _ _ _ _ _ => none
  | n + 1 => bX11_without_53 (fX11_without_53 n)
def fX11_without (v0 : Nat) (v1 : Int32) (v2 : Int32) (v3 : Int32) (h : gx_H) : Option (Int32 × gx_H) :=
  (gx_isO h v0 9).bind fun _ =>
  gx_bd (fX11_isPlayer v0 v1 h) fun x2 h1 =>
  if x2 = 0 then
    fX11_without_30 v0 h1
  else
    gx_bd (fX11_in ((v2).toInt64) (1 : Int64) (4 : Int64) h1) fun x4 h3 =>
    if x4 = 0 then
      fX11_without_30 v0 h3
    else
      gx_bd (fX11_in ((v3).toInt64) (0 : Int64) (1 : Int64) h3) fun x6 h5 =>
      if x6 = 0 then
        fX11_without_30 v0 h5
      else
        gx_bd (fX11_rowsOf v0 v2 h5) fun x8 h7 =>
        fX11_without_53 gx_N v0 v1 v2 v3 (-1 : Int32) (-1 : Int32) x8 (0 : Int32) h7
set_option maxRecDepth 100000 in
set_option maxHeartbeats 4000000 in
theorem gX11_without_30 {E : gx_Env} {d : Nat}  : ∀ (v0 : Nat) (h : gx_H), gx_G E RX11 cX11_without 10 (some .int) false (d + 6) 0 0 30 [some (.ref v0), none, none, none, none, none, none, none, none, none] [] h (fun x : Int32 => some (.int x)) (fX11_without_30 v0 h) := by
  intro v0 h
  unfold fX11_without_30
  refine gx_aload_n 0 dX11_without_30 rfl rfl ?_
  refine gx_bipush (-2 : Int32) dX11_without_31 (by decide) ?_
  refine gx_callV (ci := 9) (bc := 0) (bs := 0) (mc := 0) (ms := 0) (em' := (fun x : Int32 => some (.int x))) [.int (-2 : Int32)] kc_RX11_81 rfl dX11_without_33 rfl rfl (gx_w8 rfl) (fun x q => (gx_isO_of (by unfold fX11_bad at q; exact q)).2) (fun _ _ q => okX11_bad (d + 5) q) (fun x10 h9 => ?_)
  exact gx_iret dX11_without_36 rfl
set_option maxRecDepth 100000 in
set_option maxHeartbeats 4000000 in
theorem gX11_without_119 {E : gx_Env} {d : Nat} (k53 : Nat → Int32 → Int32 → Int32 → Int32 → Int32 → Int32 → Int32 → gx_H → Option (Int32 × gx_H)) (hk53 : ∀ (v0 : Nat) (v1 : Int32) (v2 : Int32) (v3 : Int32) (v4 : Int32) (v5 : Int32) (v6 : Int32) (v7 : Int32) (h : gx_H), gx_G E RX11 cX11_without 10 (some .int) false (d + 6) 0 0 53 [some (.ref v0), some (.int v1), some (.int v2), some (.int v3), some (.int v4), some (.int v5), some (.int v6), some (.int v7), none, none] [] h (fun x : Int32 => some (.int x)) (k53 v0 v1 v2 v3 v4 v5 v6 v7 h))  (k70 : Nat → Int32 → Int32 → Int32 → Int32 → Int32 → Int32 → Int32 → Int32 → Int32 → gx_H → Option (Int32 × gx_H)) (hk70 : ∀ (v0 : Nat) (v1 : Int32) (v2 : Int32) (v3 : Int32) (v4 : Int32) (v5 : Int32) (v6 : Int32) (v7 : Int32) (v8 : Int32) (v9 : Int32) (h : gx_H), gx_G E RX11 cX11_without 10 (some .int) false (d + 6) 0 0 70 [some (.ref v0), some (.int v1), some (.int v2), some (.int v3), some (.int v4), some (.int v5), some (.int v6), some (.int v7), some (.int v8), some (.int v9)] [] h (fun x : Int32 => some (.int x)) (k70 v0 v1 v2 v3 v4 v5 v6 v7 v8 v9 h))  : ∀ (v0 : Nat) (v1 : Int32) (v2 : Int32) (v3 : Int32) (v4 : Int32) (v5 : Int32) (v6 : Int32) (v7 : Int32) (v9 : Int32) (s0 : Int32) (s1 : Int32) (h : gx_H), gx_G E RX11 cX11_without 10 (some .int) false (d + 6) 0 0 119 [some (.ref v0), some (.int v1), some (.int v2), some (.int v3), some (.int v4), some (.int v5), some (.int v6), some (.int v7), none, some (.int v9)] [.int s1, .int s0] h (fun x : Int32 => some (.int x)) (fX11_without_119 k53 k70 v0 v1 v2 v3 v4 v5 v6 v7 v9 s0 s1 h) := by
  intro v0 v1 v2 v3 v4 v5 v6 v7 v9 s0 s1 h
  unfold fX11_without_119
  refine gx_iadd dX11_without_119 ?_
  refine gx_istore [some (.ref v0), some (.int v1), some (.int v2), some (.int v3), some (.int v4), some (.int v5), some (.int v6), some (.int v7), some (.int (s0 + s1)), some (.int v9)] dX11_without_120 (by decide) rfl ?_
  refine gx_iinc (1 : Int32) [some (.ref v0), some (.int v1), some (.int v2), some (.int v3), some (.int v4), some (.int v5), some (.int v6), some (.int v7), some (.int (s0 + s1)), some (.int (v9 + (1 : Int32)))] dX11_without_122 rfl (by decide) (by decide) rfl ?_
  refine gx_goto 70 dX11_without_125 (by decide) ?_
  exact gx_sub (hk70 v0 v1 v2 v3 v4 v5 v6 v7 (s0 + s1) (v9 + (1 : Int32)) h) (And.intro rfl (And.intro rfl (And.intro rfl (And.intro rfl (And.intro rfl (And.intro rfl (And.intro rfl (And.intro rfl (And.intro rfl (And.intro rfl True.intro))))))))))
set_option maxRecDepth 100000 in
set_option maxHeartbeats 4000000 in
theorem gX11_without_158 {E : gx_Env} {d : Nat} (k53 : Nat → Int32 → Int32 → Int32 → Int32 → Int32 → Int32 → Int32 → gx_H → Option (Int32 × gx_H)) (hk53 : ∀ (v0 : Nat) (v1 : Int32) (v2 : Int32) (v3 : Int32) (v4 : Int32) (v5 : Int32) (v6 : Int32) (v7 : Int32) (h : gx_H), gx_G E RX11 cX11_without 10 (some .int) false (d + 6) 0 0 53 [some (.ref v0), some (.int v1), some (.int v2), some (.int v3), some (.int v4), some (.int v5), some (.int v6), some (.int v7), none, none] [] h (fun x : Int32 => some (.int x)) (k53 v0 v1 v2 v3 v4 v5 v6 v7 h))  : ∀ (v0 : Nat) (v1 : Int32) (v2 : Int32) (v3 : Int32) (v4 : Int32) (v6 : Int32) (v7 : Int32) (s0 : Int32) (h : gx_H), gx_G E RX11 cX11_without 10 (some .int) false (d + 6) 0 0 158 [some (.ref v0), some (.int v1), some (.int v2), some (.int v3), some (.int v4), none, some (.int v6), some (.int v7), none, none] [.int s0] h (fun x : Int32 => some (.int x)) (fX11_without_158 k53 v0 v1 v2 v3 v4 v6 v7 s0 h) := by
  intro v0 v1 v2 v3 v4 v6 v7 s0 h
  unfold fX11_without_158
  refine gx_istore [some (.ref v0), some (.int v1), some (.int v2), some (.int v3), some (.int v4), some (.int s0), some (.int v6), some (.int v7), none, none] dX11_without_158 (by decide) rfl ?_
  refine gx_iinc (1 : Int32) [some (.ref v0), some (.int v1), some (.int v2), some (.int v3), some (.int v4), some (.int s0), some (.int v6), some (.int (v7 + (1 : Int32))), none, none] dX11_without_160 rfl (by decide) (by decide) rfl ?_
  refine gx_goto 53 dX11_without_163 (by decide) ?_
  exact gx_sub (hk53 v0 v1 v2 v3 v4 s0 v6 (v7 + (1 : Int32)) h) (And.intro rfl (And.intro rfl (And.intro rfl (And.intro rfl (And.intro rfl (And.intro rfl (And.intro rfl (And.intro rfl True.intro))))))))
set_option maxRecDepth 100000 in
set_option maxHeartbeats 4000000 in
theorem gX11_without_142 {E : gx_Env} {d : Nat} (k53 : Nat → Int32 → Int32 → Int32 → Int32 → Int32 → Int32 → Int32 → gx_H → Option (Int32 × gx_H)) (hk53 : ∀ (v0 : Nat) (v1 : Int32) (v2 : Int32) (v3 : Int32) (v4 : Int32) (v5 : Int32) (v6 : Int32) (v7 : Int32) (h : gx_H), gx_G E RX11 cX11_without 10 (some .int) false (d + 6) 0 0 53 [some (.ref v0), some (.int v1), some (.int v2), some (.int v3), some (.int v4), some (.int v5), some (.int v6), some (.int v7), none, none] [] h (fun x : Int32 => some (.int x)) (k53 v0 v1 v2 v3 v4 v5 v6 v7 h))  : ∀ (v0 : Nat) (v1 : Int32) (v2 : Int32) (v3 : Int32) (v5 : Int32) (v6 : Int32) (v7 : Int32) (v8 : Int32) (s0 : Int32) (h : gx_H), gx_G E RX11 cX11_without 10 (some .int) false (d + 6) 0 0 142 [some (.ref v0), some (.int v1), some (.int v2), some (.int v3), none, some (.int v5), some (.int v6), some (.int v7), some (.int v8), none] [.int s0] h (fun x : Int32 => some (.int x)) (fX11_without_142 k53 v0 v1 v2 v3 v5 v6 v7 v8 s0 h) := by
  intro v0 v1 v2 v3 v5 v6 v7 v8 s0 h
  unfold fX11_without_142
  refine gx_istore [some (.ref v0), some (.int v1), some (.int v2), some (.int v3), some (.int s0), some (.int v5), some (.int v6), some (.int v7), some (.int v8), none] dX11_without_142 (by decide) rfl ?_
  refine gx_iload dX11_without_144 rfl ?_
  refine gx_iload dX11_without_146 rfl ?_
  refine gx_icmp_le 156 dX11_without_148 (by decide) (fun _ => ?_) (fun _ => ?_)
  · refine gx_iload dX11_without_156 rfl ?_
    exact gx_sub (gX11_without_158 k53 hk53 v0 v1 v2 v3 s0 v6 v7 v5 h) (And.intro rfl (And.intro rfl (And.intro rfl (And.intro rfl (And.intro rfl (And.intro rfl (And.intro rfl True.intro)))))))
  · refine gx_iload dX11_without_151 rfl ?_
    refine gx_goto 158 dX11_without_153 (by decide) ?_
    exact gx_sub (gX11_without_158 k53 hk53 v0 v1 v2 v3 s0 v6 v7 v8 h) (And.intro rfl (And.intro rfl (And.intro rfl (And.intro rfl (And.intro rfl (And.intro rfl (And.intro rfl True.intro)))))))
set_option maxRecDepth 100000 in
set_option maxHeartbeats 4000000 in
theorem gbX11_without_70 {E : gx_Env} {d : Nat} (k53 : Nat → Int32 → Int32 → Int32 → Int32 → Int32 → Int32 → Int32 → gx_H → Option (Int32 × gx_H)) (hk53 : ∀ (v0 : Nat) (v1 : Int32) (v2 : Int32) (v3 : Int32) (v4 : Int32) (v5 : Int32) (v6 : Int32) (v7 : Int32) (h : gx_H), gx_G E RX11 cX11_without 10 (some .int) false (d + 6) 0 0 53 [some (.ref v0), some (.int v1), some (.int v2), some (.int v3), some (.int v4), some (.int v5), some (.int v6), some (.int v7), none, none] [] h (fun x : Int32 => some (.int x)) (k53 v0 v1 v2 v3 v4 v5 v6 v7 h))  (k70 : Nat → Int32 → Int32 → Int32 → Int32 → Int32 → Int32 → Int32 → Int32 → Int32 → gx_H → Option (Int32 × gx_H)) (hk70 : ∀ (v0 : Nat) (v1 : Int32) (v2 : Int32) (v3 : Int32) (v4 : Int32) (v5 : Int32) (v6 : Int32) (v7 : Int32) (v8 : Int32) (v9 : Int32) (h : gx_H), gx_G E RX11 cX11_without 10 (some .int) false (d + 6) 0 0 70 [some (.ref v0), some (.int v1), some (.int v2), some (.int v3), some (.int v4), some (.int v5), some (.int v6), some (.int v7), some (.int v8), some (.int v9)] [] h (fun x : Int32 => some (.int x)) (k70 v0 v1 v2 v3 v4 v5 v6 v7 v8 v9 h))  : ∀ (v0 : Nat) (v1 : Int32) (v2 : Int32) (v3 : Int32) (v4 : Int32) (v5 : Int32) (v6 : Int32) (v7 : Int32) (v8 : Int32) (v9 : Int32) (h : gx_H), gx_G E RX11 cX11_without 10 (some .int) false (d + 6) 0 0 70 [some (.ref v0), some (.int v1), some (.int v2), some (.int v3), some (.int v4), some (.int v5), some (.int v6), some (.int v7), some (.int v8), some (.int v9)] [] h (fun x : Int32 => some (.int x)) (bX11_without_70 k53 k70 v0 v1 v2 v3 v4 v5 v6 v7 v8 v9 h) := by
  intro v0 v1 v2 v3 v4 v5 v6 v7 v8 v9 h
  unfold bX11_without_70
  refine gx_iload dX11_without_70 rfl ?_
  refine gx_iload dX11_without_72 rfl ?_
  refine gx_icmp_ge 128 dX11_without_74 (by decide) (fun _ => ?_) (fun _ => ?_)
  · refine gx_iload dX11_without_128 rfl ?_
    refine gx_iload dX11_without_130 rfl ?_
    refine gx_icmp_le 140 dX11_without_132 (by decide) (fun _ => ?_) (fun _ => ?_)
    · refine gx_iload dX11_without_140 rfl ?_
      exact gx_sub (gX11_without_142 k53 hk53 v0 v1 v2 v3 v5 v6 v7 v8 v4 h) (And.intro rfl (And.intro rfl (And.intro rfl (And.intro rfl (And.intro rfl (And.intro rfl (And.intro rfl (And.intro rfl True.intro))))))))
    · refine gx_iload dX11_without_135 rfl ?_
      refine gx_goto 142 dX11_without_137 (by decide) ?_
      exact gx_sub (gX11_without_142 k53 hk53 v0 v1 v2 v3 v5 v6 v7 v8 v7 h) (And.intro rfl (And.intro rfl (And.intro rfl (And.intro rfl (And.intro rfl (And.intro rfl (And.intro rfl (And.intro rfl True.intro))))))))
  · refine gx_aload_n 0 dX11_without_77 rfl rfl ?_
    refine gx_callV (ci := 9) (bc := 0) (bs := 0) (mc := 0) (ms := 0) (em' := (fun _ : Unit => none)) [] kc_RX11_208 rfl dX11_without_78 rfl rfl (gx_w8 rfl) (fun x q => (gx_isO_of (by unfold fX11_tries at q; exact q)).2) (fun _ _ q => okX11_tries (d + 5) q) (fun u14 h13 => ?_)
    refine gx_aload_n 0 dX11_without_81 rfl rfl ?_
    refine gx_getR kf_RX11_7 dX11_without_82 (fun a15 => ?_)
    refine gx_sipush (822 : Int32) dX11_without_85 (by decide) ?_
    refine gx_iload dX11_without_88 rfl ?_
    refine gx_iadd dX11_without_90 ?_
    refine gx_iconst (-1 : Int32) dX11_without_91 (by decide) ?_
    refine gx_iast dX11_without_92 (fun h16 => ?_)
    refine gx_aload_n 0 dX11_without_93 rfl rfl ?_
    refine gx_iload_n 1 dX11_without_94 rfl rfl ?_
    refine gx_iload dX11_without_95 rfl ?_
    refine gx_iload_n 2 dX11_without_97 rfl rfl ?_
    refine gx_callV (ci := 9) (bc := 0) (bs := 0) (mc := 0) (ms := 0) (em' := (fun _ : Unit => none)) [.int v1, .int v9, .int v2] kc_RX11_211 rfl dX11_without_98 rfl rfl (gx_w8 rfl) (fun x q => (gx_isO_of (by unfold fX11_plays at q; exact q)).2) (fun _ _ q => okX11_plays d q) (fun u18 h17 => ?_)
    refine gx_iload dX11_without_101 rfl ?_
    refine gx_aload_n 0 dX11_without_103 rfl rfl ?_
    refine gx_sipush (812 : Int32) dX11_without_104 (by decide) ?_
    refine gx_iload_n 1 dX11_without_107 rfl rfl ?_
    refine gx_callV (ci := 9) (bc := 0) (bs := 0) (mc := 0) (ms := 0) (em' := (fun x : Int32 => some (.int x))) [.int (812 : Int32), .int v1] kc_RX11_57 rfl dX11_without_108 rfl rfl (gx_w8 rfl) (fun x q => (gx_isO_of (by unfold fX11_isHome at q; exact q)).2) (fun _ _ q => okX11_isHome (d + 5) q) (fun x20 h19 => ?_)
    refine gx_if_eq 118 dX11_without_111 (by decide) (fun _ => ?_) (fun _ => ?_)
    · refine gx_iconst (0 : Int32) dX11_without_118 (by decide) ?_
      exact gx_sub (gX11_without_119 k53 hk53 k70 hk70 v0 v1 v2 v3 v4 v5 v6 v7 v9 v8 (0 : Int32) h19) (And.intro rfl (And.intro rfl (And.intro rfl (And.intro rfl (And.intro rfl (And.intro rfl (And.intro rfl (And.intro rfl (And.intro rfl True.intro)))))))))
    · refine gx_iconst (1 : Int32) dX11_without_114 (by decide) ?_
      refine gx_goto 119 dX11_without_115 (by decide) ?_
      exact gx_sub (gX11_without_119 k53 hk53 k70 hk70 v0 v1 v2 v3 v4 v5 v6 v7 v9 v8 (1 : Int32) h19) (And.intro rfl (And.intro rfl (And.intro rfl (And.intro rfl (And.intro rfl (And.intro rfl (And.intro rfl (And.intro rfl (And.intro rfl True.intro)))))))))
set_option maxRecDepth 100000 in
set_option maxHeartbeats 4000000 in
theorem gX11_without_70 {E : gx_Env} {d : Nat} (k53 : Nat → Int32 → Int32 → Int32 → Int32 → Int32 → Int32 → Int32 → gx_H → Option (Int32 × gx_H)) (hk53 : ∀ (v0 : Nat) (v1 : Int32) (v2 : Int32) (v3 : Int32) (v4 : Int32) (v5 : Int32) (v6 : Int32) (v7 : Int32) (h : gx_H), gx_G E RX11 cX11_without 10 (some .int) false (d + 6) 0 0 53 [some (.ref v0), some (.int v1), some (.int v2), some (.int v3), some (.int v4), some (.int v5), some (.int v6), some (.int v7), none, none] [] h (fun x : Int32 => some (.int x)) (k53 v0 v1 v2 v3 v4 v5 v6 v7 h))  : ∀ (n : Nat) (v0 : Nat) (v1 : Int32) (v2 : Int32) (v3 : Int32) (v4 : Int32) (v5 : Int32) (v6 : Int32) (v7 : Int32) (v8 : Int32) (v9 : Int32) (h : gx_H), gx_G E RX11 cX11_without 10 (some .int) false (d + 6) 0 0 70 [some (.ref v0), some (.int v1), some (.int v2), some (.int v3), some (.int v4), some (.int v5), some (.int v6), some (.int v7), some (.int v8), some (.int v9)] [] h (fun x : Int32 => some (.int x)) (fX11_without_70 k53 n v0 v1 v2 v3 v4 v5 v6 v7 v8 v9 h) := by
  intro n
  induction n with
  | zero => intro v0 v1 v2 v3 v4 v5 v6 v7 v8 v9 h; exact gx_none
  | succ n ih => exact gbX11_without_70 k53 hk53 (fX11_without_70 k53 n) ih
set_option maxRecDepth 100000 in
set_option maxHeartbeats 4000000 in
theorem gX11_without_177 {E : gx_Env} {d : Nat}  : ∀ (s0 : Int32) (h : gx_H), gx_G E RX11 cX11_without 10 (some .int) false (d + 6) 0 0 177 [none, none, none, none, none, none, none, none, none, none] [.int s0] h (fun x : Int32 => some (.int x)) (fX11_without_177 s0 h) := by
  intro s0 h
  unfold fX11_without_177
  exact gx_iret dX11_without_177 rfl
set_option maxRecDepth 100000 in
set_option maxHeartbeats 4000000 in
theorem gbX11_without_53 {E : gx_Env} {d : Nat}  (k53 : Nat → Int32 → Int32 → Int32 → Int32 → Int32 → Int32 → Int32 → gx_H → Option (Int32 × gx_H)) (hk53 : ∀ (v0 : Nat) (v1 : Int32) (v2 : Int32) (v3 : Int32) (v4 : Int32) (v5 : Int32) (v6 : Int32) (v7 : Int32) (h : gx_H), gx_G E RX11 cX11_without 10 (some .int) false (d + 6) 0 0 53 [some (.ref v0), some (.int v1), some (.int v2), some (.int v3), some (.int v4), some (.int v5), some (.int v6), some (.int v7), none, none] [] h (fun x : Int32 => some (.int x)) (k53 v0 v1 v2 v3 v4 v5 v6 v7 h))  : ∀ (v0 : Nat) (v1 : Int32) (v2 : Int32) (v3 : Int32) (v4 : Int32) (v5 : Int32) (v6 : Int32) (v7 : Int32) (h : gx_H), gx_G E RX11 cX11_without 10 (some .int) false (d + 6) 0 0 53 [some (.ref v0), some (.int v1), some (.int v2), some (.int v3), some (.int v4), some (.int v5), some (.int v6), some (.int v7), none, none] [] h (fun x : Int32 => some (.int x)) (bX11_without_53 k53 v0 v1 v2 v3 v4 v5 v6 v7 h) := by
  intro v0 v1 v2 v3 v4 v5 v6 v7 h
  unfold bX11_without_53
  refine gx_iload dX11_without_53 rfl ?_
  refine gx_aload_n 0 dX11_without_55 rfl rfl ?_
  refine gx_getR kf_RX11_7 dX11_without_56 (fun a11 => ?_)
  refine gx_iconst (2 : Int32) dX11_without_59 (by decide) ?_
  refine gx_iald dX11_without_60 (fun x12 => ?_)
  refine gx_icmp_ge 166 dX11_without_61 (by decide) (fun _ => ?_) (fun _ => ?_)
  · refine gx_iload_n 3 dX11_without_166 rfl rfl ?_
    refine gx_if_ne 175 dX11_without_167 (by decide) (fun _ => ?_) (fun _ => ?_)
    · refine gx_iload dX11_without_175 rfl ?_
      exact gx_sub (gX11_without_177 v5 h) True.intro
    · refine gx_iload dX11_without_170 rfl ?_
      refine gx_goto 177 dX11_without_172 (by decide) ?_
      exact gx_sub (gX11_without_177 v4 h) True.intro
  · refine gx_iconst (0 : Int32) dX11_without_64 (by decide) ?_
    refine gx_istore [some (.ref v0), some (.int v1), some (.int v2), some (.int v3), some (.int v4), some (.int v5), some (.int v6), some (.int v7), some (.int (0 : Int32)), none] dX11_without_65 (by decide) rfl ?_
    refine gx_iconst (0 : Int32) dX11_without_67 (by decide) ?_
    refine gx_istore [some (.ref v0), some (.int v1), some (.int v2), some (.int v3), some (.int v4), some (.int v5), some (.int v6), some (.int v7), some (.int (0 : Int32)), some (.int (0 : Int32))] dX11_without_68 (by decide) rfl ?_
    exact gx_sub (gX11_without_70 k53 hk53 gx_N v0 v1 v2 v3 v4 v5 v6 v7 (0 : Int32) (0 : Int32) h) (And.intro rfl (And.intro rfl (And.intro rfl (And.intro rfl (And.intro rfl (And.intro rfl (And.intro rfl (And.intro rfl (And.intro rfl (And.intro rfl True.intro))))))))))
set_option maxRecDepth 100000 in
set_option maxHeartbeats 4000000 in
theorem gX11_without_53 {E : gx_Env} {d : Nat}  : ∀ (n : Nat) (v0 : Nat) (v1 : Int32) (v2 : Int32) (v3 : Int32) (v4 : Int32) (v5 : Int32) (v6 : Int32) (v7 : Int32) (h : gx_H), gx_G E RX11 cX11_without 10 (some .int) false (d + 6) 0 0 53 [some (.ref v0), some (.int v1), some (.int v2), some (.int v3), some (.int v4), some (.int v5), some (.int v6), some (.int v7), none, none] [] h (fun x : Int32 => some (.int x)) (fX11_without_53 n v0 v1 v2 v3 v4 v5 v6 v7 h) := by
  intro n
  induction n with
  | zero => intro v0 v1 v2 v3 v4 v5 v6 v7 h; exact gx_none
  | succ n ih => exact gbX11_without_53  (fX11_without_53  n) ih
set_option maxRecDepth 100000 in
set_option maxHeartbeats 4000000 in
theorem geX11_without {E : gx_Env} {d : Nat} (v0 : Nat) (v1 : Int32) (v2 : Int32) (v3 : Int32) (h : gx_H) : gx_G E RX11 cX11_without 10 (some .int) false (d + 6) 0 0 0 [some (.ref v0), some (.int v1), some (.int v2), some (.int v3), none, none, none, none, none, none] [] h (fun x : Int32 => some (.int x)) (fX11_without v0 v1 v2 v3 h) := by
  unfold fX11_without
  refine gx_bind fun _ _ => ?_
  refine gx_aload_n 0 dX11_without_0 rfl rfl ?_
  refine gx_iload_n 1 dX11_without_1 rfl rfl ?_
  refine gx_callV (ci := 9) (bc := 0) (bs := 0) (mc := 0) (ms := 0) (em' := (fun x : Int32 => some (.int x))) [.int v1] kc_RX11_185 rfl dX11_without_2 rfl rfl (gx_w8 rfl) (fun x q => (gx_isO_of (by unfold fX11_isPlayer at q; exact q)).2) (fun _ _ q => okX11_isPlayer (d + 4) q) (fun x2 h1 => ?_)
  refine gx_if_eq 30 dX11_without_5 (by decide) (fun _ => ?_) (fun _ => ?_)
  · exact gx_sub (gX11_without_30 v0 h1) (And.intro rfl True.intro)
  · refine gx_iload_n 2 dX11_without_8 rfl rfl ?_
    refine gx_i2l dX11_without_9 ?_
    refine gx_lconst (1 : Int64) dX11_without_10 (by decide) ?_
    refine gx_ldc2 kk_RX11_218 dX11_without_11 ?_
    refine gx_callS (bc := 0) (bs := 0) (mc := 0) (ms := 0) (em' := (fun x : Int32 => some (.int x))) [.long ((v2).toInt64), .long (1 : Int64), .long (4 : Int64)] kc_RX11_39 dX11_without_14 rfl rfl (gx_w8 rfl) (fun _ _ q => okX11_in (d + 5) q) (fun x4 h3 => ?_)
    refine gx_if_eq 30 dX11_without_17 (by decide) (fun _ => ?_) (fun _ => ?_)
    · exact gx_sub (gX11_without_30 v0 h3) (And.intro rfl True.intro)
    · refine gx_iload_n 3 dX11_without_20 rfl rfl ?_
      refine gx_i2l dX11_without_21 ?_
      refine gx_lconst (0 : Int64) dX11_without_22 (by decide) ?_
      refine gx_lconst (1 : Int64) dX11_without_23 (by decide) ?_
      refine gx_callS (bc := 0) (bs := 0) (mc := 0) (ms := 0) (em' := (fun x : Int32 => some (.int x))) [.long ((v3).toInt64), .long (0 : Int64), .long (1 : Int64)] kc_RX11_39 dX11_without_24 rfl rfl (gx_w8 rfl) (fun _ _ q => okX11_in (d + 5) q) (fun x6 h5 => ?_)
      refine gx_if_ne 37 dX11_without_27 (by decide) (fun _ => ?_) (fun _ => ?_)
      · refine gx_iconst (-1 : Int32) dX11_without_37 (by decide) ?_
        refine gx_istore [some (.ref v0), some (.int v1), some (.int v2), some (.int v3), some (.int (-1 : Int32)), none, none, none, none, none] dX11_without_38 (by decide) rfl ?_
        refine gx_iconst (-1 : Int32) dX11_without_40 (by decide) ?_
        refine gx_istore [some (.ref v0), some (.int v1), some (.int v2), some (.int v3), some (.int (-1 : Int32)), some (.int (-1 : Int32)), none, none, none, none] dX11_without_41 (by decide) rfl ?_
        refine gx_aload_n 0 dX11_without_43 rfl rfl ?_
        refine gx_iload_n 2 dX11_without_44 rfl rfl ?_
        refine gx_callV (ci := 9) (bc := 0) (bs := 0) (mc := 0) (ms := 0) (em' := (fun x : Int32 => some (.int x))) [.int v2] kc_RX11_202 rfl dX11_without_45 rfl rfl (gx_w8 rfl) (fun x q => (gx_isO_of (by unfold fX11_rowsOf at q; exact q)).2) (fun _ _ q => okX11_rowsOf (d + 5) q) (fun x8 h7 => ?_)
        refine gx_istore [some (.ref v0), some (.int v1), some (.int v2), some (.int v3), some (.int (-1 : Int32)), some (.int (-1 : Int32)), some (.int x8), none, none, none] dX11_without_48 (by decide) rfl ?_
        refine gx_iconst (0 : Int32) dX11_without_50 (by decide) ?_
        refine gx_istore [some (.ref v0), some (.int v1), some (.int v2), some (.int v3), some (.int (-1 : Int32)), some (.int (-1 : Int32)), some (.int x8), some (.int (0 : Int32)), none, none] dX11_without_51 (by decide) rfl ?_
        exact gx_sub (gX11_without_53 gx_N v0 v1 v2 v3 (-1 : Int32) (-1 : Int32) x8 (0 : Int32) h7) (And.intro rfl (And.intro rfl (And.intro rfl (And.intro rfl (And.intro rfl (And.intro rfl (And.intro rfl (And.intro rfl True.intro))))))))
      · exact gx_sub (gX11_without_30 v0 h5) (And.intro rfl True.intro)
theorem okX11_without {E : gx_Env} (d : Nat) {v0 : Nat} {v1 : Int32} {v2 : Int32} {v3 : Int32} {h : gx_H} {r : Int32} {h1 : gx_H} (q : fX11_without v0 v1 v2 v3 h = some (r, h1)) : gx_M E yX11_without cX11_without 10 (some .int) (d + 6) 0 0 [.ref v0, .int v1, .int v2, .int v3] h ((fun x : Int32 => some (.int x)) r) h1 := gx_meth (y := yX11_without) (cc := cX11_without) (nL := 10) (em := (fun x : Int32 => some (.int x))) (ini := false) [.ref v0, .int v1, .int v2, .int v3] (by decide) (by simp [gx_sl]) (fun q => by cases q) (geX11_without v0 v1 v2 v3 h) q
