theorem dX11_span_0 : decode cX11_span 0 = .ok (.aload_n 0, 1) := by decide +kernel
theorem dX11_span_1 : decode cX11_span 1 = .ok (.iload_n 1, 1) := by decide +kernel
theorem dX11_span_2 : decode cX11_span 2 = .ok (.invokevirtual 185, 3) := by decide +kernel
theorem dX11_span_5 : decode cX11_span 5 = .ok (.ifCond .eq 27, 3) := by decide +kernel
theorem dX11_span_8 : decode cX11_span 8 = .ok (.iload_n 2, 1) := by decide +kernel
theorem dX11_span_9 : decode cX11_span 9 = .ok (.i2l, 1) := by decide +kernel
theorem dX11_span_10 : decode cX11_span 10 = .ok (.lconst 0, 1) := by decide +kernel
theorem dX11_span_11 : decode cX11_span 11 = .ok (.ldc2_w 218, 3) := by decide +kernel
theorem dX11_span_14 : decode cX11_span 14 = .ok (.invokestatic 39, 3) := by decide +kernel
theorem dX11_span_17 : decode cX11_span 17 = .ok (.ifCond .eq 15, 3) := by decide +kernel
theorem dX11_span_20 : decode cX11_span 20 = .ok (.iload_n 3, 1) := by decide +kernel
theorem dX11_span_21 : decode cX11_span 21 = .ok (.i2l, 1) := by decide +kernel
theorem dX11_span_22 : decode cX11_span 22 = .ok (.lconst 0, 1) := by decide +kernel
theorem dX11_span_23 : decode cX11_span 23 = .ok (.ldc2_w 77, 3) := by decide +kernel
theorem dX11_span_26 : decode cX11_span 26 = .ok (.invokestatic 39, 3) := by decide +kernel
theorem dX11_span_29 : decode cX11_span 29 = .ok (.ifCond .ne 10, 3) := by decide +kernel
theorem dX11_span_32 : decode cX11_span 32 = .ok (.aload_n 0, 1) := by decide +kernel
theorem dX11_span_33 : decode cX11_span 33 = .ok (.bipush (-2), 2) := by decide +kernel
theorem dX11_span_35 : decode cX11_span 35 = .ok (.invokevirtual 81, 3) := by decide +kernel
theorem dX11_span_38 : decode cX11_span 38 = .ok (.ireturn, 1) := by decide +kernel
theorem dX11_span_39 : decode cX11_span 39 = .ok (.iconst 0, 1) := by decide +kernel
theorem dX11_span_40 : decode cX11_span 40 = .ok (.istore 4, 2) := by decide +kernel
theorem dX11_span_42 : decode cX11_span 42 = .ok (.iload 4, 2) := by decide +kernel
theorem dX11_span_44 : decode cX11_span 44 = .ok (.bipush 40, 2) := by decide +kernel
theorem dX11_span_46 : decode cX11_span 46 = .ok (.if_icmp .gt 17, 3) := by decide +kernel
theorem dX11_span_49 : decode cX11_span 49 = .ok (.aload_n 0, 1) := by decide +kernel
theorem dX11_span_50 : decode cX11_span 50 = .ok (.getfield 30, 3) := by decide +kernel
theorem dX11_span_53 : decode cX11_span 53 = .ok (.iload 4, 2) := by decide +kernel
theorem dX11_span_55 : decode cX11_span 55 = .ok (.iconst 0, 1) := by decide +kernel
theorem dX11_span_56 : decode cX11_span 56 = .ok (.bastore, 1) := by decide +kernel
theorem dX11_span_57 : decode cX11_span 57 = .ok (.iinc 4 1, 3) := by decide +kernel
theorem dX11_span_60 : decode cX11_span 60 = .ok (.goto (-18), 3) := by decide +kernel
theorem dX11_span_63 : decode cX11_span 63 = .ok (.aload_n 0, 1) := by decide +kernel
theorem dX11_span_64 : decode cX11_span 64 = .ok (.iload_n 2, 1) := by decide +kernel
theorem dX11_span_65 : decode cX11_span 65 = .ok (.invokevirtual 202, 3) := by decide +kernel
theorem dX11_span_68 : decode cX11_span 68 = .ok (.istore 4, 2) := by decide +kernel
theorem dX11_span_70 : decode cX11_span 70 = .ok (.iconst 0, 1) := by decide +kernel
theorem dX11_span_71 : decode cX11_span 71 = .ok (.istore 5, 2) := by decide +kernel
theorem dX11_span_73 : decode cX11_span 73 = .ok (.iload 5, 2) := by decide +kernel
theorem dX11_span_75 : decode cX11_span 75 = .ok (.iload 4, 2) := by decide +kernel
theorem dX11_span_77 : decode cX11_span 77 = .ok (.if_icmp .ge 37, 3) := by decide +kernel
theorem dX11_span_80 : decode cX11_span 80 = .ok (.aload_n 0, 1) := by decide +kernel
theorem dX11_span_81 : decode cX11_span 81 = .ok (.invokevirtual 208, 3) := by decide +kernel
theorem dX11_span_84 : decode cX11_span 84 = .ok (.aload_n 0, 1) := by decide +kernel
theorem dX11_span_85 : decode cX11_span 85 = .ok (.iload_n 1, 1) := by decide +kernel
theorem dX11_span_86 : decode cX11_span 86 = .ok (.iload 5, 2) := by decide +kernel
theorem dX11_span_88 : decode cX11_span 88 = .ok (.iload_n 2, 1) := by decide +kernel
theorem dX11_span_89 : decode cX11_span 89 = .ok (.invokevirtual 211, 3) := by decide +kernel
theorem dX11_span_92 : decode cX11_span 92 = .ok (.aload_n 0, 1) := by decide +kernel
theorem dX11_span_93 : decode cX11_span 93 = .ok (.getfield 30, 3) := by decide +kernel
theorem dX11_span_96 : decode cX11_span 96 = .ok (.aload_n 0, 1) := by decide +kernel
theorem dX11_span_97 : decode cX11_span 97 = .ok (.getfield 7, 3) := by decide +kernel
theorem dX11_span_100 : decode cX11_span 100 = .ok (.sipush 844, 3) := by decide +kernel
theorem dX11_span_103 : decode cX11_span 103 = .ok (.iload_n 1, 1) := by decide +kernel
theorem dX11_span_104 : decode cX11_span 104 = .ok (.iadd, 1) := by decide +kernel
theorem dX11_span_105 : decode cX11_span 105 = .ok (.iaload, 1) := by decide +kernel
theorem dX11_span_106 : decode cX11_span 106 = .ok (.iconst 1, 1) := by decide +kernel
theorem dX11_span_107 : decode cX11_span 107 = .ok (.bastore, 1) := by decide +kernel
theorem dX11_span_108 : decode cX11_span 108 = .ok (.iinc 5 1, 3) := by decide +kernel
theorem dX11_span_111 : decode cX11_span 111 = .ok (.goto (-38), 3) := by decide +kernel
theorem dX11_span_114 : decode cX11_span 114 = .ok (.iconst 0, 1) := by decide +kernel
theorem dX11_span_115 : decode cX11_span 115 = .ok (.istore 5, 2) := by decide +kernel
theorem dX11_span_117 : decode cX11_span 117 = .ok (.iconst (-1), 1) := by decide +kernel
theorem dX11_span_118 : decode cX11_span 118 = .ok (.istore 6, 2) := by decide +kernel
theorem dX11_span_120 : decode cX11_span 120 = .ok (.iconst (-1), 1) := by decide +kernel
theorem dX11_span_121 : decode cX11_span 121 = .ok (.istore 7, 2) := by decide +kernel
theorem dX11_span_123 : decode cX11_span 123 = .ok (.iconst 0, 1) := by decide +kernel
theorem dX11_span_124 : decode cX11_span 124 = .ok (.istore 8, 2) := by decide +kernel
theorem dX11_span_126 : decode cX11_span 126 = .ok (.iload 8, 2) := by decide +kernel
theorem dX11_span_128 : decode cX11_span 128 = .ok (.bipush 40, 2) := by decide +kernel
theorem dX11_span_130 : decode cX11_span 130 = .ok (.if_icmp .gt 40, 3) := by decide +kernel
theorem dX11_span_133 : decode cX11_span 133 = .ok (.aload_n 0, 1) := by decide +kernel
theorem dX11_span_134 : decode cX11_span 134 = .ok (.getfield 30, 3) := by decide +kernel
theorem dX11_span_137 : decode cX11_span 137 = .ok (.iload 8, 2) := by decide +kernel
theorem dX11_span_139 : decode cX11_span 139 = .ok (.baload, 1) := by decide +kernel
theorem dX11_span_140 : decode cX11_span 140 = .ok (.ifCond .eq 24, 3) := by decide +kernel
theorem dX11_span_143 : decode cX11_span 143 = .ok (.iinc 5 1, 3) := by decide +kernel
theorem dX11_span_146 : decode cX11_span 146 = .ok (.iload 6, 2) := by decide +kernel
theorem dX11_span_148 : decode cX11_span 148 = .ok (.ifCond .ge 8, 3) := by decide +kernel
theorem dX11_span_151 : decode cX11_span 151 = .ok (.iload 8, 2) := by decide +kernel
theorem dX11_span_153 : decode cX11_span 153 = .ok (.goto 5, 3) := by decide +kernel
theorem dX11_span_156 : decode cX11_span 156 = .ok (.iload 6, 2) := by decide +kernel
theorem dX11_span_158 : decode cX11_span 158 = .ok (.istore 6, 2) := by decide +kernel
theorem dX11_span_160 : decode cX11_span 160 = .ok (.iload 8, 2) := by decide +kernel
theorem dX11_span_162 : decode cX11_span 162 = .ok (.istore 7, 2) := by decide +kernel
theorem dX11_span_164 : decode cX11_span 164 = .ok (.iinc 8 1, 3) := by decide +kernel
theorem dX11_span_167 : decode cX11_span 167 = .ok (.goto (-41), 3) := by decide +kernel
theorem dX11_span_170 : decode cX11_span 170 = .ok (.iload_n 3, 1) := by decide +kernel
theorem dX11_span_171 : decode cX11_span 171 = .ok (.ifCond .ne 8, 3) := by decide +kernel
theorem dX11_span_174 : decode cX11_span 174 = .ok (.iload 5, 2) := by decide +kernel
theorem dX11_span_176 : decode cX11_span 176 = .ok (.goto 15, 3) := by decide +kernel
theorem dX11_span_179 : decode cX11_span 179 = .ok (.iload_n 3, 1) := by decide +kernel
theorem dX11_span_180 : decode cX11_span 180 = .ok (.iconst 1, 1) := by decide +kernel
theorem dX11_span_181 : decode cX11_span 181 = .ok (.if_icmp .ne 8, 3) := by decide +kernel
theorem dX11_span_184 : decode cX11_span 184 = .ok (.iload 6, 2) := by decide +kernel
theorem dX11_span_186 : decode cX11_span 186 = .ok (.goto 5, 3) := by decide +kernel
theorem dX11_span_189 : decode cX11_span 189 = .ok (.iload 7, 2) := by decide +kernel
theorem dX11_span_191 : decode cX11_span 191 = .ok (.ireturn, 1) := by decide +kernel
def fX11_span_32 (v0 : Nat) (h : gx_H) : Option (Int32 × gx_H) :=
  gx_bd (fX11_bad v0 (-2 : Int32) h) fun x8 h7 =>
  some (x8, h7)
def fX11_span_164 (k126 : Nat → Int32 → Int32 → Int32 → Int32 → Int32 → gx_H → Option (Int32 × gx_H)) (v0 : Nat) (v3 : Int32) (v5 : Int32) (v6 : Int32) (v7 : Int32) (v8 : Int32) (h : gx_H) : Option (Int32 × gx_H) :=
  k126 v0 v3 v5 v6 v7 (v8 + (1 : Int32)) h
def fX11_span_158 (k126 : Nat → Int32 → Int32 → Int32 → Int32 → Int32 → gx_H → Option (Int32 × gx_H)) (v0 : Nat) (v3 : Int32) (v5 : Int32) (v8 : Int32) (s0 : Int32) (h : gx_H) : Option (Int32 × gx_H) :=
  fX11_span_164 k126 v0 v3 v5 s0 v8 v8 h
def fX11_span_191 (s0 : Int32) (h : gx_H) : Option (Int32 × gx_H) :=
  some (s0, h)
def bX11_span_126 (k126 : Nat → Int32 → Int32 → Int32 → Int32 → Int32 → gx_H → Option (Int32 × gx_H)) (v0 : Nat) (v3 : Int32) (v5 : Int32) (v6 : Int32) (v7 : Int32) (v8 : Int32) (h : gx_H) : Option (Int32 × gx_H) :=
  if (40 : Int32) < v8 then
    if v3 = 0 then
      fX11_span_191 v5 h
    else
      if v3 = (1 : Int32) then
        fX11_span_191 v6 h
      else
        fX11_span_191 v7 h
  else
    (gx_fR h v0 9 10).bind fun a21 =>
    (gx_aI 2 h a21 v8).bind fun x22 =>
    if x22 = 0 then
      fX11_span_164 k126 v0 v3 v5 v6 v7 v8 h
    else
      if 0 ≤ v6 then
        fX11_span_158 k126 v0 v3 (v5 + (1 : Int32)) v8 v6 h
      else
        fX11_span_158 k126 v0 v3 (v5 + (1 : Int32)) v8 v8 h
def fX11_span_126 : Nat → Nat → Int32 → Int32 → Int32 → Int32 → Int32 → gx_H → Option (Int32 × gx_H)
  | 0 => fun _ _ _ _ _ _ _ => none
  | n + 1 => bX11_span_126 (fX11_span_126 n)
def bX11_span_73 (k73 : Nat → Int32 → Int32 → Int32 → Int32 → Int32 → gx_H → Option (Int32 × gx_H)) (v0 : Nat) (v1 : Int32) (v2 : Int32) (v3 : Int32) (v4 : Int32) (v5 : Int32) (h : gx_H) : Option (Int32 × gx_H) :=
  if v4 ≤ v5 then
    fX11_span_126 gx_N v0 v3 (0 : Int32) (-1 : Int32) (-1 : Int32) (0 : Int32) h
  else
    gx_bd (fX11_tries v0 h) fun u14 h13 =>
    gx_bd (fX11_plays v0 v1 v5 v2 h13) fun u16 h15 =>
    (gx_fR h15 v0 9 10).bind fun a17 =>
    (gx_fR h15 v0 9 0).bind fun a18 =>
    (gx_aI 0 h15 a18 ((844 : Int32) + v1)).bind fun x19 =>
    (gx_sI 2 h15 a17 x19 (vp_nar .boolean (1 : Int32))).bind fun h20 =>
    k73 v0 v1 v2 v3 v4 (v5 + (1 : Int32)) h20
def fX11_span_73 : Nat → Nat → Int32 → Int32 → Int32 → Int32 → Int32 → gx_H → Option (Int32 × gx_H)
  | 0 => fun _ _ _ _ _ _ _ => none
  | n + 1 => bX11_span_73 (fX11_span_73 n)
def bX11_span_42 (k42 : Nat → Int32 → Int32 → Int32 → Int32 → gx_H → Option (Int32 × gx_H)) (v0 : Nat) (v1 : Int32) (v2 : Int32) (v3 : Int32) (v4 : Int32) (h : gx_H) : Option (Int32 × gx_H) :=
  if (40 : Int32) < v4 then
    gx_bd (fX11_rowsOf v0 v2 h) fun x10 h9 =>
    fX11_span_73 gx_N v0 v1 v2 v3 x10 (0 : Int32) h9
  else
    (gx_fR h v0 9 10).bind fun a11 =>
    (gx_sI 2 h a11 v4 (vp_nar .boolean (0 : Int32))).bind fun h12 =>
    k42 v0 v1 v2 v3 (v4 + (1 : Int32)) h12
def fX11_span_42 : Nat → Nat → Int32 → Int32 → Int32 → Int32 → gx_H → Option (Int32 × gx_H)
  | 0 => fun _ _ _ _ _ _ => none
  | n + 1 => bX11_span_42 (fX11_span_42 n)
def fX11_span (v0 : Nat) (v1 : Int32) (v2 : Int32) (v3 : Int32) (h : gx_H) : Option (Int32 × gx_H) :=
  (gx_isO h v0 9).bind fun _ =>
  gx_bd (fX11_isPlayer v0 v1 h) fun x2 h1 =>
  if x2 = 0 then
    fX11_span_32 v0 h1
  else
    gx_bd (fX11_in ((v2).toInt64) (0 : Int64) (4 : Int64) h1) fun x4 h3 =>
    if x4 = 0 then
      fX11_span_32 v0 h3
    else
      gx_bd (fX11_in ((v3).toInt64) (0 : Int64) (2 : Int64) h3) fun x6 h5 =>
      if x6 = 0 then
        fX11_span_32 v0 h5
      else
        fX11_span_42 gx_N v0 v1 v2 v3 (0 : Int32) h5
set_option maxRecDepth 100000 in
set_option maxHeartbeats 4000000 in
theorem gX11_span_32 {E : gx_Env} {d : Nat}  : ∀ (v0 : Nat) (h : gx_H), gx_G E RX11 cX11_span 9 (some .int) false (d + 6) 0 0 32 [some (.ref v0), none, none, none, none, none, none, none, none] [] h (fun x : Int32 => some (.int x)) (fX11_span_32 v0 h) := by
  intro v0 h
  unfold fX11_span_32
  refine gx_aload_n 0 dX11_span_32 rfl rfl ?_
  refine gx_bipush (-2 : Int32) dX11_span_33 (by decide) ?_
  refine gx_callV (ci := 9) (bc := 0) (bs := 0) (mc := 0) (ms := 0) (em' := (fun x : Int32 => some (.int x))) [.int (-2 : Int32)] kc_RX11_81 rfl dX11_span_35 rfl rfl (gx_w8 rfl) (fun x q => (gx_isO_of (by unfold fX11_bad at q; exact q)).2) (fun _ _ q => okX11_bad (d + 5) q) (fun x8 h7 => ?_)
  exact gx_iret dX11_span_38 rfl
set_option maxRecDepth 100000 in
set_option maxHeartbeats 4000000 in
theorem gX11_span_164 {E : gx_Env} {d : Nat} (k126 : Nat → Int32 → Int32 → Int32 → Int32 → Int32 → gx_H → Option (Int32 × gx_H)) (hk126 : ∀ (v0 : Nat) (v3 : Int32) (v5 : Int32) (v6 : Int32) (v7 : Int32) (v8 : Int32) (h : gx_H), gx_G E RX11 cX11_span 9 (some .int) false (d + 6) 0 0 126 [some (.ref v0), none, none, some (.int v3), none, some (.int v5), some (.int v6), some (.int v7), some (.int v8)] [] h (fun x : Int32 => some (.int x)) (k126 v0 v3 v5 v6 v7 v8 h))  : ∀ (v0 : Nat) (v3 : Int32) (v5 : Int32) (v6 : Int32) (v7 : Int32) (v8 : Int32) (h : gx_H), gx_G E RX11 cX11_span 9 (some .int) false (d + 6) 0 0 164 [some (.ref v0), none, none, some (.int v3), none, some (.int v5), some (.int v6), some (.int v7), some (.int v8)] [] h (fun x : Int32 => some (.int x)) (fX11_span_164 k126 v0 v3 v5 v6 v7 v8 h) := by
  intro v0 v3 v5 v6 v7 v8 h
  unfold fX11_span_164
  refine gx_iinc (1 : Int32) [some (.ref v0), none, none, some (.int v3), none, some (.int v5), some (.int v6), some (.int v7), some (.int (v8 + (1 : Int32)))] dX11_span_164 rfl (by decide) (by decide) rfl ?_
  refine gx_goto 126 dX11_span_167 (by decide) ?_
  exact gx_sub (hk126 v0 v3 v5 v6 v7 (v8 + (1 : Int32)) h) (And.intro rfl (And.intro rfl (And.intro rfl (And.intro rfl (And.intro rfl (And.intro rfl True.intro))))))
set_option maxRecDepth 100000 in
set_option maxHeartbeats 4000000 in
theorem gX11_span_158 {E : gx_Env} {d : Nat} (k126 : Nat → Int32 → Int32 → Int32 → Int32 → Int32 → gx_H → Option (Int32 × gx_H)) (hk126 : ∀ (v0 : Nat) (v3 : Int32) (v5 : Int32) (v6 : Int32) (v7 : Int32) (v8 : Int32) (h : gx_H), gx_G E RX11 cX11_span 9 (some .int) false (d + 6) 0 0 126 [some (.ref v0), none, none, some (.int v3), none, some (.int v5), some (.int v6), some (.int v7), some (.int v8)] [] h (fun x : Int32 => some (.int x)) (k126 v0 v3 v5 v6 v7 v8 h))  : ∀ (v0 : Nat) (v3 : Int32) (v5 : Int32) (v8 : Int32) (s0 : Int32) (h : gx_H), gx_G E RX11 cX11_span 9 (some .int) false (d + 6) 0 0 158 [some (.ref v0), none, none, some (.int v3), none, some (.int v5), none, none, some (.int v8)] [.int s0] h (fun x : Int32 => some (.int x)) (fX11_span_158 k126 v0 v3 v5 v8 s0 h) := by
  intro v0 v3 v5 v8 s0 h
  unfold fX11_span_158
  refine gx_istore [some (.ref v0), none, none, some (.int v3), none, some (.int v5), some (.int s0), none, some (.int v8)] dX11_span_158 (by decide) rfl ?_
  refine gx_iload dX11_span_160 rfl ?_
  refine gx_istore [some (.ref v0), none, none, some (.int v3), none, some (.int v5), some (.int s0), some (.int v8), some (.int v8)] dX11_span_162 (by decide) rfl ?_
  exact gx_sub (gX11_span_164 k126 hk126 v0 v3 v5 s0 v8 v8 h) (And.intro rfl (And.intro rfl (And.intro rfl (And.intro rfl (And.intro rfl (And.intro rfl True.intro))))))
set_option maxRecDepth 100000 in
set_option maxHeartbeats 4000000 in
theorem gX11_span_191 {E : gx_Env} {d : Nat}  : ∀ (s0 : Int32) (h : gx_H), gx_G E RX11 cX11_span 9 (some .int) false (d + 6) 0 0 191 [none, none, none, none, none, none, none, none, none] [.int s0] h (fun x : Int32 => some (.int x)) (fX11_span_191 s0 h) := by
  intro s0 h
  unfold fX11_span_191
  exact gx_iret dX11_span_191 rfl
set_option maxRecDepth 100000 in
set_option maxHeartbeats 4000000 in
theorem gbX11_span_126 {E : gx_Env} {d : Nat}  (k126 : Nat → Int32 → Int32 → Int32 → Int32 → Int32 → gx_H → Option (Int32 × gx_H)) (hk126 : ∀ (v0 : Nat) (v3 : Int32) (v5 : Int32) (v6 : Int32) (v7 : Int32) (v8 : Int32) (h : gx_H), gx_G E RX11 cX11_span 9 (some .int) false (d + 6) 0 0 126 [some (.ref v0), none, none, some (.int v3), none, some (.int v5), some (.int v6), some (.int v7), some (.int v8)] [] h (fun x : Int32 => some (.int x)) (k126 v0 v3 v5 v6 v7 v8 h))  : ∀ (v0 : Nat) (v3 : Int32) (v5 : Int32) (v6 : Int32) (v7 : Int32) (v8 : Int32) (h : gx_H), gx_G E RX11 cX11_span 9 (some .int) false (d + 6) 0 0 126 [some (.ref v0), none, none, some (.int v3), none, some (.int v5), some (.int v6), some (.int v7), some (.int v8)] [] h (fun x : Int32 => some (.int x)) (bX11_span_126 k126 v0 v3 v5 v6 v7 v8 h) := by
  intro v0 v3 v5 v6 v7 v8 h
  unfold bX11_span_126
  refine gx_iload dX11_span_126 rfl ?_
  refine gx_bipush (40 : Int32) dX11_span_128 (by decide) ?_
  refine gx_icmp_gt 170 dX11_span_130 (by decide) (fun _ => ?_) (fun _ => ?_)
  · refine gx_iload_n 3 dX11_span_170 rfl rfl ?_
    refine gx_if_ne 179 dX11_span_171 (by decide) (fun _ => ?_) (fun _ => ?_)
    · refine gx_iload_n 3 dX11_span_179 rfl rfl ?_
      refine gx_iconst (1 : Int32) dX11_span_180 (by decide) ?_
      refine gx_icmp_ne 189 dX11_span_181 (by decide) (fun _ => ?_) (fun _ => ?_)
      · refine gx_iload dX11_span_189 rfl ?_
        exact gx_sub (gX11_span_191 v7 h) True.intro
      · refine gx_iload dX11_span_184 rfl ?_
        refine gx_goto 191 dX11_span_186 (by decide) ?_
        exact gx_sub (gX11_span_191 v6 h) True.intro
    · refine gx_iload dX11_span_174 rfl ?_
      refine gx_goto 191 dX11_span_176 (by decide) ?_
      exact gx_sub (gX11_span_191 v5 h) True.intro
  · refine gx_aload_n 0 dX11_span_133 rfl rfl ?_
    refine gx_getR kf_RX11_30 dX11_span_134 (fun a21 => ?_)
    refine gx_iload dX11_span_137 rfl ?_
    refine gx_zald dX11_span_139 (fun x22 => ?_)
    refine gx_if_eq 164 dX11_span_140 (by decide) (fun _ => ?_) (fun _ => ?_)
    · exact gx_sub (gX11_span_164 k126 hk126 v0 v3 v5 v6 v7 v8 h) (And.intro rfl (And.intro rfl (And.intro rfl (And.intro rfl (And.intro rfl (And.intro rfl True.intro))))))
    · refine gx_iinc (1 : Int32) [some (.ref v0), none, none, some (.int v3), none, some (.int (v5 + (1 : Int32))), some (.int v6), some (.int v7), some (.int v8)] dX11_span_143 rfl (by decide) (by decide) rfl ?_
      refine gx_iload dX11_span_146 rfl ?_
      refine gx_if_ge 156 dX11_span_148 (by decide) (fun _ => ?_) (fun _ => ?_)
      · refine gx_iload dX11_span_156 rfl ?_
        exact gx_sub (gX11_span_158 k126 hk126 v0 v3 (v5 + (1 : Int32)) v8 v6 h) (And.intro rfl (And.intro rfl (And.intro rfl (And.intro rfl True.intro))))
      · refine gx_iload dX11_span_151 rfl ?_
        refine gx_goto 158 dX11_span_153 (by decide) ?_
        exact gx_sub (gX11_span_158 k126 hk126 v0 v3 (v5 + (1 : Int32)) v8 v8 h) (And.intro rfl (And.intro rfl (And.intro rfl (And.intro rfl True.intro))))
set_option maxRecDepth 100000 in
set_option maxHeartbeats 4000000 in
theorem gX11_span_126 {E : gx_Env} {d : Nat}  : ∀ (n : Nat) (v0 : Nat) (v3 : Int32) (v5 : Int32) (v6 : Int32) (v7 : Int32) (v8 : Int32) (h : gx_H), gx_G E RX11 cX11_span 9 (some .int) false (d + 6) 0 0 126 [some (.ref v0), none, none, some (.int v3), none, some (.int v5), some (.int v6), some (.int v7), some (.int v8)] [] h (fun x : Int32 => some (.int x)) (fX11_span_126 n v0 v3 v5 v6 v7 v8 h) := by
  intro n
  induction n with
  | zero => intro v0 v3 v5 v6 v7 v8 h; exact gx_none
  | succ n ih => exact gbX11_span_126  (fX11_span_126  n) ih
set_option maxRecDepth 100000 in
set_option maxHeartbeats 4000000 in
theorem gbX11_span_73 {E : gx_Env} {d : Nat}  (k73 : Nat → Int32 → Int32 → Int32 → Int32 → Int32 → gx_H → Option (Int32 × gx_H)) (hk73 : ∀ (v0 : Nat) (v1 : Int32) (v2 : Int32) (v3 : Int32) (v4 : Int32) (v5 : Int32) (h : gx_H), gx_G E RX11 cX11_span 9 (some .int) false (d + 6) 0 0 73 [some (.ref v0), some (.int v1), some (.int v2), some (.int v3), some (.int v4), some (.int v5), none, none, none] [] h (fun x : Int32 => some (.int x)) (k73 v0 v1 v2 v3 v4 v5 h))  : ∀ (v0 : Nat) (v1 : Int32) (v2 : Int32) (v3 : Int32) (v4 : Int32) (v5 : Int32) (h : gx_H), gx_G E RX11 cX11_span 9 (some .int) false (d + 6) 0 0 73 [some (.ref v0), some (.int v1), some (.int v2), some (.int v3), some (.int v4), some (.int v5), none, none, none] [] h (fun x : Int32 => some (.int x)) (bX11_span_73 k73 v0 v1 v2 v3 v4 v5 h) := by
  intro v0 v1 v2 v3 v4 v5 h
  unfold bX11_span_73
  refine gx_iload dX11_span_73 rfl ?_
  refine gx_iload dX11_span_75 rfl ?_
  refine gx_icmp_ge 114 dX11_span_77 (by decide) (fun _ => ?_) (fun _ => ?_)
  · refine gx_iconst (0 : Int32) dX11_span_114 (by decide) ?_
    refine gx_istore [some (.ref v0), some (.int v1), some (.int v2), some (.int v3), some (.int v4), some (.int (0 : Int32)), none, none, none] dX11_span_115 (by decide) rfl ?_
    refine gx_iconst (-1 : Int32) dX11_span_117 (by decide) ?_
    refine gx_istore [some (.ref v0), some (.int v1), some (.int v2), some (.int v3), some (.int v4), some (.int (0 : Int32)), some (.int (-1 : Int32)), none, none] dX11_span_118 (by decide) rfl ?_
    refine gx_iconst (-1 : Int32) dX11_span_120 (by decide) ?_
    refine gx_istore [some (.ref v0), some (.int v1), some (.int v2), some (.int v3), some (.int v4), some (.int (0 : Int32)), some (.int (-1 : Int32)), some (.int (-1 : Int32)), none] dX11_span_121 (by decide) rfl ?_
    refine gx_iconst (0 : Int32) dX11_span_123 (by decide) ?_
    refine gx_istore [some (.ref v0), some (.int v1), some (.int v2), some (.int v3), some (.int v4), some (.int (0 : Int32)), some (.int (-1 : Int32)), some (.int (-1 : Int32)), some (.int (0 : Int32))] dX11_span_124 (by decide) rfl ?_
    exact gx_sub (gX11_span_126 gx_N v0 v3 (0 : Int32) (-1 : Int32) (-1 : Int32) (0 : Int32) h) (And.intro rfl (And.intro rfl (And.intro rfl (And.intro rfl (And.intro rfl (And.intro rfl True.intro))))))
  · refine gx_aload_n 0 dX11_span_80 rfl rfl ?_
    refine gx_callV (ci := 9) (bc := 0) (bs := 0) (mc := 0) (ms := 0) (em' := (fun _ : Unit => none)) [] kc_RX11_208 rfl dX11_span_81 rfl rfl (gx_w8 rfl) (fun x q => (gx_isO_of (by unfold fX11_tries at q; exact q)).2) (fun _ _ q => okX11_tries (d + 5) q) (fun u14 h13 => ?_)
    refine gx_aload_n 0 dX11_span_84 rfl rfl ?_
    refine gx_iload_n 1 dX11_span_85 rfl rfl ?_
    refine gx_iload dX11_span_86 rfl ?_
    refine gx_iload_n 2 dX11_span_88 rfl rfl ?_
    refine gx_callV (ci := 9) (bc := 0) (bs := 0) (mc := 0) (ms := 0) (em' := (fun _ : Unit => none)) [.int v1, .int v5, .int v2] kc_RX11_211 rfl dX11_span_89 rfl rfl (gx_w8 rfl) (fun x q => (gx_isO_of (by unfold fX11_plays at q; exact q)).2) (fun _ _ q => okX11_plays d q) (fun u16 h15 => ?_)
    refine gx_aload_n 0 dX11_span_92 rfl rfl ?_
    refine gx_getR kf_RX11_30 dX11_span_93 (fun a17 => ?_)
    refine gx_aload_n 0 dX11_span_96 rfl rfl ?_
    refine gx_getR kf_RX11_7 dX11_span_97 (fun a18 => ?_)
    refine gx_sipush (844 : Int32) dX11_span_100 (by decide) ?_
    refine gx_iload_n 1 dX11_span_103 rfl rfl ?_
    refine gx_iadd dX11_span_104 ?_
    refine gx_iald dX11_span_105 (fun x19 => ?_)
    refine gx_iconst (1 : Int32) dX11_span_106 (by decide) ?_
    refine gx_zast dX11_span_107 (fun h20 => ?_)
    refine gx_iinc (1 : Int32) [some (.ref v0), some (.int v1), some (.int v2), some (.int v3), some (.int v4), some (.int (v5 + (1 : Int32))), none, none, none] dX11_span_108 rfl (by decide) (by decide) rfl ?_
    refine gx_goto 73 dX11_span_111 (by decide) ?_
    exact gx_sub (hk73 v0 v1 v2 v3 v4 (v5 + (1 : Int32)) h20) (And.intro rfl (And.intro rfl (And.intro rfl (And.intro rfl (And.intro rfl (And.intro rfl True.intro))))))
set_option maxRecDepth 100000 in
set_option maxHeartbeats 4000000 in
theorem gX11_span_73 {E : gx_Env} {d : Nat}  : ∀ (n : Nat) (v0 : Nat) (v1 : Int32) (v2 : Int32) (v3 : Int32) (v4 : Int32) (v5 : Int32) (h : gx_H), gx_G E RX11 cX11_span 9 (some .int) false (d + 6) 0 0 73 [some (.ref v0), some (.int v1), some (.int v2), some (.int v3), some (.int v4), some (.int v5), none, none, none] [] h (fun x : Int32 => some (.int x)) (fX11_span_73 n v0 v1 v2 v3 v4 v5 h) := by
  intro n
  induction n with
  | zero => intro v0 v1 v2 v3 v4 v5 h; exact gx_none
  | succ n ih => exact gbX11_span_73  (fX11_span_73  n) ih
set_option maxRecDepth 100000 in
set_option maxHeartbeats 4000000 in
theorem gbX11_span_42 {E : gx_Env} {d : Nat}  (k42 : Nat → Int32 → Int32 → Int32 → Int32 → gx_H → Option (Int32 × gx_H)) (hk42 : ∀ (v0 : Nat) (v1 : Int32) (v2 : Int32) (v3 : Int32) (v4 : Int32) (h : gx_H), gx_G E RX11 cX11_span 9 (some .int) false (d + 6) 0 0 42 [some (.ref v0), some (.int v1), some (.int v2), some (.int v3), some (.int v4), none, none, none, none] [] h (fun x : Int32 => some (.int x)) (k42 v0 v1 v2 v3 v4 h))  : ∀ (v0 : Nat) (v1 : Int32) (v2 : Int32) (v3 : Int32) (v4 : Int32) (h : gx_H), gx_G E RX11 cX11_span 9 (some .int) false (d + 6) 0 0 42 [some (.ref v0), some (.int v1), some (.int v2), some (.int v3), some (.int v4), none, none, none, none] [] h (fun x : Int32 => some (.int x)) (bX11_span_42 k42 v0 v1 v2 v3 v4 h) := by
  intro v0 v1 v2 v3 v4 h
  unfold bX11_span_42
  refine gx_iload dX11_span_42 rfl ?_
  refine gx_bipush (40 : Int32) dX11_span_44 (by decide) ?_
  refine gx_icmp_gt 63 dX11_span_46 (by decide) (fun _ => ?_) (fun _ => ?_)
  · refine gx_aload_n 0 dX11_span_63 rfl rfl ?_
    refine gx_iload_n 2 dX11_span_64 rfl rfl ?_
    refine gx_callV (ci := 9) (bc := 0) (bs := 0) (mc := 0) (ms := 0) (em' := (fun x : Int32 => some (.int x))) [.int v2] kc_RX11_202 rfl dX11_span_65 rfl rfl (gx_w8 rfl) (fun x q => (gx_isO_of (by unfold fX11_rowsOf at q; exact q)).2) (fun _ _ q => okX11_rowsOf (d + 5) q) (fun x10 h9 => ?_)
    refine gx_istore [some (.ref v0), some (.int v1), some (.int v2), some (.int v3), some (.int x10), none, none, none, none] dX11_span_68 (by decide) rfl ?_
    refine gx_iconst (0 : Int32) dX11_span_70 (by decide) ?_
    refine gx_istore [some (.ref v0), some (.int v1), some (.int v2), some (.int v3), some (.int x10), some (.int (0 : Int32)), none, none, none] dX11_span_71 (by decide) rfl ?_
    exact gx_sub (gX11_span_73 gx_N v0 v1 v2 v3 x10 (0 : Int32) h9) (And.intro rfl (And.intro rfl (And.intro rfl (And.intro rfl (And.intro rfl (And.intro rfl True.intro))))))
  · refine gx_aload_n 0 dX11_span_49 rfl rfl ?_
    refine gx_getR kf_RX11_30 dX11_span_50 (fun a11 => ?_)
    refine gx_iload dX11_span_53 rfl ?_
    refine gx_iconst (0 : Int32) dX11_span_55 (by decide) ?_
    refine gx_zast dX11_span_56 (fun h12 => ?_)
    refine gx_iinc (1 : Int32) [some (.ref v0), some (.int v1), some (.int v2), some (.int v3), some (.int (v4 + (1 : Int32))), none, none, none, none] dX11_span_57 rfl (by decide) (by decide) rfl ?_
    refine gx_goto 42 dX11_span_60 (by decide) ?_
    exact gx_sub (hk42 v0 v1 v2 v3 (v4 + (1 : Int32)) h12) (And.intro rfl (And.intro rfl (And.intro rfl (And.intro rfl (And.intro rfl True.intro)))))
set_option maxRecDepth 100000 in
set_option maxHeartbeats 4000000 in
theorem gX11_span_42 {E : gx_Env} {d : Nat}  : ∀ (n : Nat) (v0 : Nat) (v1 : Int32) (v2 : Int32) (v3 : Int32) (v4 : Int32) (h : gx_H), gx_G E RX11 cX11_span 9 (some .int) false (d + 6) 0 0 42 [some (.ref v0), some (.int v1), some (.int v2), some (.int v3), some (.int v4), none, none, none, none] [] h (fun x : Int32 => some (.int x)) (fX11_span_42 n v0 v1 v2 v3 v4 h) := by
  intro n
  induction n with
  | zero => intro v0 v1 v2 v3 v4 h; exact gx_none
  | succ n ih => exact gbX11_span_42  (fX11_span_42  n) ih
set_option maxRecDepth 100000 in
set_option maxHeartbeats 4000000 in
theorem geX11_span {E : gx_Env} {d : Nat} (v0 : Nat) (v1 : Int32) (v2 : Int32) (v3 : Int32) (h : gx_H) : gx_G E RX11 cX11_span 9 (some .int) false (d + 6) 0 0 0 [some (.ref v0), some (.int v1), some (.int v2), some (.int v3), none, none, none, none, none] [] h (fun x : Int32 => some (.int x)) (fX11_span v0 v1 v2 v3 h) := by
  unfold fX11_span
  refine gx_bind fun _ _ => ?_
  refine gx_aload_n 0 dX11_span_0 rfl rfl ?_
  refine gx_iload_n 1 dX11_span_1 rfl rfl ?_
  refine gx_callV (ci := 9) (bc := 0) (bs := 0) (mc := 0) (ms := 0) (em' := (fun x : Int32 => some (.int x))) [.int v1] kc_RX11_185 rfl dX11_span_2 rfl rfl (gx_w8 rfl) (fun x q => (gx_isO_of (by unfold fX11_isPlayer at q; exact q)).2) (fun _ _ q => okX11_isPlayer (d + 4) q) (fun x2 h1 => ?_)
  refine gx_if_eq 32 dX11_span_5 (by decide) (fun _ => ?_) (fun _ => ?_)
  · exact gx_sub (gX11_span_32 v0 h1) (And.intro rfl True.intro)
  · refine gx_iload_n 2 dX11_span_8 rfl rfl ?_
    refine gx_i2l dX11_span_9 ?_
    refine gx_lconst (0 : Int64) dX11_span_10 (by decide) ?_
    refine gx_ldc2 kk_RX11_218 dX11_span_11 ?_
    refine gx_callS (bc := 0) (bs := 0) (mc := 0) (ms := 0) (em' := (fun x : Int32 => some (.int x))) [.long ((v2).toInt64), .long (0 : Int64), .long (4 : Int64)] kc_RX11_39 dX11_span_14 rfl rfl (gx_w8 rfl) (fun _ _ q => okX11_in (d + 5) q) (fun x4 h3 => ?_)
    refine gx_if_eq 32 dX11_span_17 (by decide) (fun _ => ?_) (fun _ => ?_)
    · exact gx_sub (gX11_span_32 v0 h3) (And.intro rfl True.intro)
    · refine gx_iload_n 3 dX11_span_20 rfl rfl ?_
      refine gx_i2l dX11_span_21 ?_
      refine gx_lconst (0 : Int64) dX11_span_22 (by decide) ?_
      refine gx_ldc2 kk_RX11_77 dX11_span_23 ?_
      refine gx_callS (bc := 0) (bs := 0) (mc := 0) (ms := 0) (em' := (fun x : Int32 => some (.int x))) [.long ((v3).toInt64), .long (0 : Int64), .long (2 : Int64)] kc_RX11_39 dX11_span_26 rfl rfl (gx_w8 rfl) (fun _ _ q => okX11_in (d + 5) q) (fun x6 h5 => ?_)
      refine gx_if_ne 39 dX11_span_29 (by decide) (fun _ => ?_) (fun _ => ?_)
      · refine gx_iconst (0 : Int32) dX11_span_39 (by decide) ?_
        refine gx_istore [some (.ref v0), some (.int v1), some (.int v2), some (.int v3), some (.int (0 : Int32)), none, none, none, none] dX11_span_40 (by decide) rfl ?_
        exact gx_sub (gX11_span_42 gx_N v0 v1 v2 v3 (0 : Int32) h5) (And.intro rfl (And.intro rfl (And.intro rfl (And.intro rfl (And.intro rfl True.intro)))))
      · exact gx_sub (gX11_span_32 v0 h5) (And.intro rfl True.intro)
theorem okX11_span {E : gx_Env} (d : Nat) {v0 : Nat} {v1 : Int32} {v2 : Int32} {v3 : Int32} {h : gx_H} {r : Int32} {h1 : gx_H} (q : fX11_span v0 v1 v2 v3 h = some (r, h1)) : gx_M E yX11_span cX11_span 9 (some .int) (d + 6) 0 0 [.ref v0, .int v1, .int v2, .int v3] h ((fun x : Int32 => some (.int x)) r) h1 := gx_meth (y := yX11_span) (cc := cX11_span) (nL := 9) (em := (fun x : Int32 => some (.int x))) (ini := false) [.ref v0, .int v1, .int v2, .int v3] (by decide) (by simp [gx_sl]) (fun q => by cases q) (geX11_span v0 v1 v2 v3 h) q
theorem dX11_keeps_0 : decode cX11_keeps 0 = .ok (.aload_n 0, 1) := by decide +kernel
theorem dX11_keeps_1 : decode cX11_keeps 1 = .ok (.getfield 7, 3) := by decide +kernel
theorem dX11_keeps_4 : decode cX11_keeps 4 = .ok (.iload_n 1, 1) := by decide +kernel
theorem dX11_keeps_5 : decode cX11_keeps 5 = .ok (.iload_n 2, 1) := by decide +kernel
theorem dX11_keeps_6 : decode cX11_keeps 6 = .ok (.iastore, 1) := by decide +kernel
theorem dX11_keeps_7 : decode cX11_keeps 7 = .ok (.aload_n 0, 1) := by decide +kernel
theorem dX11_keeps_8 : decode cX11_keeps 8 = .ok (.getfield 7, 3) := by decide +kernel
theorem dX11_keeps_11 : decode cX11_keeps 11 = .ok (.iload_n 1, 1) := by decide +kernel
theorem dX11_keeps_12 : decode cX11_keeps 12 = .ok (.iconst 1, 1) := by decide +kernel
theorem dX11_keeps_13 : decode cX11_keeps 13 = .ok (.iadd, 1) := by decide +kernel
theorem dX11_keeps_14 : decode cX11_keeps 14 = .ok (.iload_n 3, 1) := by decide +kernel
theorem dX11_keeps_15 : decode cX11_keeps 15 = .ok (.iastore, 1) := by decide +kernel
theorem dX11_keeps_16 : decode cX11_keeps 16 = .ok (.aload_n 0, 1) := by decide +kernel
theorem dX11_keeps_17 : decode cX11_keeps 17 = .ok (.getfield 7, 3) := by decide +kernel
theorem dX11_keeps_20 : decode cX11_keeps 20 = .ok (.iload_n 1, 1) := by decide +kernel
theorem dX11_keeps_21 : decode cX11_keeps 21 = .ok (.iconst 2, 1) := by decide +kernel
theorem dX11_keeps_22 : decode cX11_keeps 22 = .ok (.iadd, 1) := by decide +kernel
theorem dX11_keeps_23 : decode cX11_keeps 23 = .ok (.iload 4, 2) := by decide +kernel
theorem dX11_keeps_25 : decode cX11_keeps 25 = .ok (.iastore, 1) := by decide +kernel
theorem dX11_keeps_26 : decode cX11_keeps 26 = .ok (.aload_n 0, 1) := by decide +kernel
theorem dX11_keeps_27 : decode cX11_keeps 27 = .ok (.getfield 7, 3) := by decide +kernel
theorem dX11_keeps_30 : decode cX11_keeps 30 = .ok (.iload_n 1, 1) := by decide +kernel
theorem dX11_keeps_31 : decode cX11_keeps 31 = .ok (.iconst 3, 1) := by decide +kernel
theorem dX11_keeps_32 : decode cX11_keeps 32 = .ok (.iadd, 1) := by decide +kernel
theorem dX11_keeps_33 : decode cX11_keeps 33 = .ok (.iload 5, 2) := by decide +kernel
theorem dX11_keeps_35 : decode cX11_keeps 35 = .ok (.iastore, 1) := by decide +kernel
theorem dX11_keeps_36 : decode cX11_keeps 36 = .ok (.return_, 1) := by decide +kernel
def fX11_keeps (v0 : Nat) (v1 : Int32) (v2 : Int32) (v3 : Int32) (v4 : Int32) (v5 : Int32) (h : gx_H) : Option (Unit × gx_H) :=
  (gx_isO h v0 9).bind fun _ =>
  (gx_fR h v0 9 0).bind fun a1 =>
  (gx_sI 0 h a1 v1 v2).bind fun h2 =>
  (gx_fR h2 v0 9 0).bind fun a3 =>
  (gx_sI 0 h2 a3 (v1 + (1 : Int32)) v3).bind fun h4 =>
  (gx_fR h4 v0 9 0).bind fun a5 =>
  (gx_sI 0 h4 a5 (v1 + (2 : Int32)) v4).bind fun h6 =>
  (gx_fR h6 v0 9 0).bind fun a7 =>
  (gx_sI 0 h6 a7 (v1 + (3 : Int32)) v5).bind fun h8 =>
  some ((), h8)
set_option maxRecDepth 100000 in
set_option maxHeartbeats 4000000 in
theorem geX11_keeps {E : gx_Env} {d : Nat} (v0 : Nat) (v1 : Int32) (v2 : Int32) (v3 : Int32) (v4 : Int32) (v5 : Int32) (h : gx_H) : gx_G E RX11 cX11_keeps 6 none false d 0 0 0 [some (.ref v0), some (.int v1), some (.int v2), some (.int v3), some (.int v4), some (.int v5)] [] h (fun _ : Unit => none) (fX11_keeps v0 v1 v2 v3 v4 v5 h) := by
  unfold fX11_keeps
  refine gx_bind fun _ _ => ?_
  refine gx_aload_n 0 dX11_keeps_0 rfl rfl ?_
  refine gx_getR kf_RX11_7 dX11_keeps_1 (fun a1 => ?_)
  refine gx_iload_n 1 dX11_keeps_4 rfl rfl ?_
  refine gx_iload_n 2 dX11_keeps_5 rfl rfl ?_
  refine gx_iast dX11_keeps_6 (fun h2 => ?_)
  refine gx_aload_n 0 dX11_keeps_7 rfl rfl ?_
  refine gx_getR kf_RX11_7 dX11_keeps_8 (fun a3 => ?_)
  refine gx_iload_n 1 dX11_keeps_11 rfl rfl ?_
  refine gx_iconst (1 : Int32) dX11_keeps_12 (by decide) ?_
  refine gx_iadd dX11_keeps_13 ?_
  refine gx_iload_n 3 dX11_keeps_14 rfl rfl ?_
  refine gx_iast dX11_keeps_15 (fun h4 => ?_)
  refine gx_aload_n 0 dX11_keeps_16 rfl rfl ?_
  refine gx_getR kf_RX11_7 dX11_keeps_17 (fun a5 => ?_)
  refine gx_iload_n 1 dX11_keeps_20 rfl rfl ?_
  refine gx_iconst (2 : Int32) dX11_keeps_21 (by decide) ?_
  refine gx_iadd dX11_keeps_22 ?_
  refine gx_iload dX11_keeps_23 rfl ?_
  refine gx_iast dX11_keeps_25 (fun h6 => ?_)
  refine gx_aload_n 0 dX11_keeps_26 rfl rfl ?_
  refine gx_getR kf_RX11_7 dX11_keeps_27 (fun a7 => ?_)
  refine gx_iload_n 1 dX11_keeps_30 rfl rfl ?_
  refine gx_iconst (3 : Int32) dX11_keeps_31 (by decide) ?_
  refine gx_iadd dX11_keeps_32 ?_
  refine gx_iload dX11_keeps_33 rfl ?_
  refine gx_iast dX11_keeps_35 (fun h8 => ?_)
  exact gx_vret dX11_keeps_36 rfl
theorem okX11_keeps {E : gx_Env} (d : Nat) {v0 : Nat} {v1 : Int32} {v2 : Int32} {v3 : Int32} {v4 : Int32} {v5 : Int32} {h : gx_H} {r : Unit} {h1 : gx_H} (q : fX11_keeps v0 v1 v2 v3 v4 v5 h = some (r, h1)) : gx_M E yX11_keeps cX11_keeps 6 none d 0 0 [.ref v0, .int v1, .int v2, .int v3, .int v4, .int v5] h ((fun _ : Unit => none) r) h1 := gx_meth (y := yX11_keeps) (cc := cX11_keeps) (nL := 6) (em := (fun _ : Unit => none)) (ini := false) [.ref v0, .int v1, .int v2, .int v3, .int v4, .int v5] (by decide) (by simp [gx_sl]) (fun q => by cases q) (geX11_keeps v0 v1 v2 v3 v4 v5 h) q
theorem dX11_note_0 : decode cX11_note 0 = .ok (.aload_n 0, 1) := by decide +kernel
theorem dX11_note_1 : decode cX11_note 1 = .ok (.iload_n 1, 1) := by decide +kernel
theorem dX11_note_2 : decode cX11_note 2 = .ok (.invokevirtual 197, 3) := by decide +kernel
theorem dX11_note_5 : decode cX11_note 5 = .ok (.ifCond .eq 40, 3) := by decide +kernel
theorem dX11_note_8 : decode cX11_note 8 = .ok (.iload_n 2, 1) := by decide +kernel
theorem dX11_note_9 : decode cX11_note 9 = .ok (.i2l, 1) := by decide +kernel
theorem dX11_note_10 : decode cX11_note 10 = .ok (.lconst 0, 1) := by decide +kernel
theorem dX11_note_11 : decode cX11_note 11 = .ok (.ldc2_w 220, 3) := by decide +kernel
theorem dX11_note_14 : decode cX11_note 14 = .ok (.invokestatic 39, 3) := by decide +kernel
theorem dX11_note_17 : decode cX11_note 17 = .ok (.ifCond .eq 28, 3) := by decide +kernel
theorem dX11_note_20 : decode cX11_note 20 = .ok (.iload_n 3, 1) := by decide +kernel
theorem dX11_note_21 : decode cX11_note 21 = .ok (.i2l, 1) := by decide +kernel
theorem dX11_note_22 : decode cX11_note 22 = .ok (.lconst 1, 1) := by decide +kernel
theorem dX11_note_23 : decode cX11_note 23 = .ok (.ldc2_w 79, 3) := by decide +kernel
theorem dX11_note_26 : decode cX11_note 26 = .ok (.invokestatic 39, 3) := by decide +kernel
theorem dX11_note_29 : decode cX11_note 29 = .ok (.ifCond .eq 16, 3) := by decide +kernel
theorem dX11_note_32 : decode cX11_note 32 = .ok (.iload 4, 2) := by decide +kernel
theorem dX11_note_34 : decode cX11_note 34 = .ok (.i2l, 1) := by decide +kernel
theorem dX11_note_35 : decode cX11_note 35 = .ok (.lconst 0, 1) := by decide +kernel
theorem dX11_note_36 : decode cX11_note 36 = .ok (.ldc2_w 75, 3) := by decide +kernel
theorem dX11_note_39 : decode cX11_note 39 = .ok (.invokestatic 39, 3) := by decide +kernel
theorem dX11_note_42 : decode cX11_note 42 = .ok (.ifCond .ne 10, 3) := by decide +kernel
theorem dX11_note_45 : decode cX11_note 45 = .ok (.aload_n 0, 1) := by decide +kernel
theorem dX11_note_46 : decode cX11_note 46 = .ok (.bipush (-2), 2) := by decide +kernel
theorem dX11_note_48 : decode cX11_note 48 = .ok (.invokevirtual 81, 3) := by decide +kernel
theorem dX11_note_51 : decode cX11_note 51 = .ok (.ireturn, 1) := by decide +kernel
theorem dX11_note_52 : decode cX11_note 52 = .ok (.aload_n 0, 1) := by decide +kernel
theorem dX11_note_53 : decode cX11_note 53 = .ok (.getfield 7, 3) := by decide +kernel
theorem dX11_note_56 : decode cX11_note 56 = .ok (.bipush 40, 2) := by decide +kernel
theorem dX11_note_58 : decode cX11_note 58 = .ok (.iaload, 1) := by decide +kernel
theorem dX11_note_59 : decode cX11_note 59 = .ok (.bipush 6, 2) := by decide +kernel
theorem dX11_note_61 : decode cX11_note 61 = .ok (.if_icmp .ne 8, 3) := by decide +kernel
theorem dX11_note_64 : decode cX11_note 64 = .ok (.aload_n 0, 1) := by decide +kernel
theorem dX11_note_65 : decode cX11_note 65 = .ok (.invokevirtual 98, 3) := by decide +kernel
theorem dX11_note_68 : decode cX11_note 68 = .ok (.ireturn, 1) := by decide +kernel
theorem dX11_note_69 : decode cX11_note 69 = .ok (.aload_n 0, 1) := by decide +kernel
theorem dX11_note_70 : decode cX11_note 70 = .ok (.bipush 41, 2) := by decide +kernel
theorem dX11_note_72 : decode cX11_note 72 = .ok (.iconst 4, 1) := by decide +kernel
theorem dX11_note_73 : decode cX11_note 73 = .ok (.aload_n 0, 1) := by decide +kernel
theorem dX11_note_74 : decode cX11_note 74 = .ok (.getfield 7, 3) := by decide +kernel
theorem dX11_note_77 : decode cX11_note 77 = .ok (.bipush 40, 2) := by decide +kernel
theorem dX11_note_79 : decode cX11_note 79 = .ok (.iaload, 1) := by decide +kernel
theorem dX11_note_80 : decode cX11_note 80 = .ok (.imul, 1) := by decide +kernel
theorem dX11_note_81 : decode cX11_note 81 = .ok (.iadd, 1) := by decide +kernel
theorem dX11_note_82 : decode cX11_note 82 = .ok (.iload_n 1, 1) := by decide +kernel
theorem dX11_note_83 : decode cX11_note 83 = .ok (.iload_n 2, 1) := by decide +kernel
theorem dX11_note_84 : decode cX11_note 84 = .ok (.iload_n 3, 1) := by decide +kernel
theorem dX11_note_85 : decode cX11_note 85 = .ok (.iload 4, 2) := by decide +kernel
theorem dX11_note_87 : decode cX11_note 87 = .ok (.invokevirtual 222, 3) := by decide +kernel
theorem dX11_note_90 : decode cX11_note 90 = .ok (.aload_n 0, 1) := by decide +kernel
theorem dX11_note_91 : decode cX11_note 91 = .ok (.getfield 7, 3) := by decide +kernel
theorem dX11_note_94 : decode cX11_note 94 = .ok (.bipush 40, 2) := by decide +kernel
theorem dX11_note_96 : decode cX11_note 96 = .ok (.dup2, 1) := by decide +kernel
theorem dX11_note_97 : decode cX11_note 97 = .ok (.iaload, 1) := by decide +kernel
theorem dX11_note_98 : decode cX11_note 98 = .ok (.iconst 1, 1) := by decide +kernel
theorem dX11_note_99 : decode cX11_note 99 = .ok (.iadd, 1) := by decide +kernel
theorem dX11_note_100 : decode cX11_note 100 = .ok (.iastore, 1) := by decide +kernel
theorem dX11_note_101 : decode cX11_note 101 = .ok (.aload_n 0, 1) := by decide +kernel
theorem dX11_note_102 : decode cX11_note 102 = .ok (.getfield 7, 3) := by decide +kernel
theorem dX11_note_105 : decode cX11_note 105 = .ok (.bipush 40, 2) := by decide +kernel
theorem dX11_note_107 : decode cX11_note 107 = .ok (.iaload, 1) := by decide +kernel
theorem dX11_note_108 : decode cX11_note 108 = .ok (.ireturn, 1) := by decide +kernel
def fX11_note_45 (v0 : Nat) (h : gx_H) : Option (Int32 × gx_H) :=
  gx_bd (fX11_bad v0 (-2 : Int32) h) fun x23 h22 =>
  some (x23, h22)
def fX11_note (v0 : Nat) (v1 : Int32) (v2 : Int32) (v3 : Int32) (v4 : Int32) (h : gx_H) : Option (Int32 × gx_H) :=
  (gx_isO h v0 9).bind fun _ =>
  gx_bd (fX11_isLink v0 v1 h) fun x2 h1 =>
  if x2 = 0 then
    fX11_note_45 v0 h1
  else
    gx_bd (fX11_in ((v2).toInt64) (0 : Int64) (9 : Int64) h1) fun x4 h3 =>
    if x4 = 0 then
      fX11_note_45 v0 h3
    else
      gx_bd (fX11_in ((v3).toInt64) (1 : Int64) (6 : Int64) h3) fun x6 h5 =>
      if x6 = 0 then
        fX11_note_45 v0 h5
      else
        gx_bd (fX11_in ((v4).toInt64) (0 : Int64) (40 : Int64) h5) fun x8 h7 =>
        if x8 = 0 then
          fX11_note_45 v0 h7
        else
          (gx_fR h7 v0 9 0).bind fun a9 =>
          (gx_aI 0 h7 a9 (40 : Int32)).bind fun x10 =>
          if x10 = (6 : Int32) then
            gx_bd (fX11_full v0 h7) fun x21 h20 =>
            some (x21, h20)
          else
            (gx_fR h7 v0 9 0).bind fun a11 =>
            (gx_aI 0 h7 a11 (40 : Int32)).bind fun x12 =>
            gx_bd (fX11_keeps v0 ((41 : Int32) + ((4 : Int32) * x12)) v1 v2 v3 v4 h7) fun u14 h13 =>
            (gx_fR h13 v0 9 0).bind fun a15 =>
            (gx_aI 0 h13 a15 (40 : Int32)).bind fun x16 =>
            (gx_sI 0 h13 a15 (40 : Int32) (x16 + (1 : Int32))).bind fun h17 =>
            (gx_fR h17 v0 9 0).bind fun a18 =>
            (gx_aI 0 h17 a18 (40 : Int32)).bind fun x19 =>
            some (x19, h17)
set_option maxRecDepth 100000 in
set_option maxHeartbeats 4000000 in
theorem gX11_note_45 {E : gx_Env} {d : Nat}  : ∀ (v0 : Nat) (h : gx_H), gx_G E RX11 cX11_note 5 (some .int) false (d + 2) 0 0 45 [some (.ref v0), none, none, none, none] [] h (fun x : Int32 => some (.int x)) (fX11_note_45 v0 h) := by
  intro v0 h
  unfold fX11_note_45
  refine gx_aload_n 0 dX11_note_45 rfl rfl ?_
  refine gx_bipush (-2 : Int32) dX11_note_46 (by decide) ?_
  refine gx_callV (ci := 9) (bc := 0) (bs := 0) (mc := 0) (ms := 0) (em' := (fun x : Int32 => some (.int x))) [.int (-2 : Int32)] kc_RX11_81 rfl dX11_note_48 rfl rfl (gx_w8 rfl) (fun x q => (gx_isO_of (by unfold fX11_bad at q; exact q)).2) (fun _ _ q => okX11_bad (d + 1) q) (fun x23 h22 => ?_)
  exact gx_iret dX11_note_51 rfl
set_option maxRecDepth 100000 in
set_option maxHeartbeats 4000000 in
theorem geX11_note {E : gx_Env} {d : Nat} (v0 : Nat) (v1 : Int32) (v2 : Int32) (v3 : Int32) (v4 : Int32) (h : gx_H) : gx_G E RX11 cX11_note 5 (some .int) false (d + 2) 0 0 0 [some (.ref v0), some (.int v1), some (.int v2), some (.int v3), some (.int v4)] [] h (fun x : Int32 => some (.int x)) (fX11_note v0 v1 v2 v3 v4 h) := by
  unfold fX11_note
  refine gx_bind fun _ _ => ?_
  refine gx_aload_n 0 dX11_note_0 rfl rfl ?_
  refine gx_iload_n 1 dX11_note_1 rfl rfl ?_
  refine gx_callV (ci := 9) (bc := 0) (bs := 0) (mc := 0) (ms := 0) (em' := (fun x : Int32 => some (.int x))) [.int v1] kc_RX11_197 rfl dX11_note_2 rfl rfl (gx_w8 rfl) (fun x q => (gx_isO_of (by unfold fX11_isLink at q; exact q)).2) (fun _ _ q => okX11_isLink d q) (fun x2 h1 => ?_)
  refine gx_if_eq 45 dX11_note_5 (by decide) (fun _ => ?_) (fun _ => ?_)
  · exact gx_sub (gX11_note_45 v0 h1) (And.intro rfl True.intro)
  · refine gx_iload_n 2 dX11_note_8 rfl rfl ?_
    refine gx_i2l dX11_note_9 ?_
    refine gx_lconst (0 : Int64) dX11_note_10 (by decide) ?_
    refine gx_ldc2 kk_RX11_220 dX11_note_11 ?_
    refine gx_callS (bc := 0) (bs := 0) (mc := 0) (ms := 0) (em' := (fun x : Int32 => some (.int x))) [.long ((v2).toInt64), .long (0 : Int64), .long (9 : Int64)] kc_RX11_39 dX11_note_14 rfl rfl (gx_w8 rfl) (fun _ _ q => okX11_in (d + 1) q) (fun x4 h3 => ?_)
    refine gx_if_eq 45 dX11_note_17 (by decide) (fun _ => ?_) (fun _ => ?_)
    · exact gx_sub (gX11_note_45 v0 h3) (And.intro rfl True.intro)
    · refine gx_iload_n 3 dX11_note_20 rfl rfl ?_
      refine gx_i2l dX11_note_21 ?_
      refine gx_lconst (1 : Int64) dX11_note_22 (by decide) ?_
      refine gx_ldc2 kk_RX11_79 dX11_note_23 ?_
      refine gx_callS (bc := 0) (bs := 0) (mc := 0) (ms := 0) (em' := (fun x : Int32 => some (.int x))) [.long ((v3).toInt64), .long (1 : Int64), .long (6 : Int64)] kc_RX11_39 dX11_note_26 rfl rfl (gx_w8 rfl) (fun _ _ q => okX11_in (d + 1) q) (fun x6 h5 => ?_)
      refine gx_if_eq 45 dX11_note_29 (by decide) (fun _ => ?_) (fun _ => ?_)
      · exact gx_sub (gX11_note_45 v0 h5) (And.intro rfl True.intro)
      · refine gx_iload dX11_note_32 rfl ?_
        refine gx_i2l dX11_note_34 ?_
        refine gx_lconst (0 : Int64) dX11_note_35 (by decide) ?_
        refine gx_ldc2 kk_RX11_75 dX11_note_36 ?_
        refine gx_callS (bc := 0) (bs := 0) (mc := 0) (ms := 0) (em' := (fun x : Int32 => some (.int x))) [.long ((v4).toInt64), .long (0 : Int64), .long (40 : Int64)] kc_RX11_39 dX11_note_39 rfl rfl (gx_w8 rfl) (fun _ _ q => okX11_in (d + 1) q) (fun x8 h7 => ?_)
        refine gx_if_ne 52 dX11_note_42 (by decide) (fun _ => ?_) (fun _ => ?_)
        · refine gx_aload_n 0 dX11_note_52 rfl rfl ?_
          refine gx_getR kf_RX11_7 dX11_note_53 (fun a9 => ?_)
          refine gx_bipush (40 : Int32) dX11_note_56 (by decide) ?_
          refine gx_iald dX11_note_58 (fun x10 => ?_)
          refine gx_bipush (6 : Int32) dX11_note_59 (by decide) ?_
          refine gx_icmp_ne 69 dX11_note_61 (by decide) (fun _ => ?_) (fun _ => ?_)
          · refine gx_aload_n 0 dX11_note_69 rfl rfl ?_
            refine gx_bipush (41 : Int32) dX11_note_70 (by decide) ?_
            refine gx_iconst (4 : Int32) dX11_note_72 (by decide) ?_
            refine gx_aload_n 0 dX11_note_73 rfl rfl ?_
            refine gx_getR kf_RX11_7 dX11_note_74 (fun a11 => ?_)
            refine gx_bipush (40 : Int32) dX11_note_77 (by decide) ?_
            refine gx_iald dX11_note_79 (fun x12 => ?_)
            refine gx_imul dX11_note_80 ?_
            refine gx_iadd dX11_note_81 ?_
            refine gx_iload_n 1 dX11_note_82 rfl rfl ?_
            refine gx_iload_n 2 dX11_note_83 rfl rfl ?_
            refine gx_iload_n 3 dX11_note_84 rfl rfl ?_
            refine gx_iload dX11_note_85 rfl ?_
            refine gx_callV (ci := 9) (bc := 0) (bs := 0) (mc := 0) (ms := 0) (em' := (fun _ : Unit => none)) [.int ((41 : Int32) + ((4 : Int32) * x12)), .int v1, .int v2, .int v3, .int v4] kc_RX11_222 rfl dX11_note_87 rfl rfl (gx_w8 rfl) (fun x q => (gx_isO_of (by unfold fX11_keeps at q; exact q)).2) (fun _ _ q => okX11_keeps (d + 1) q) (fun u14 h13 => ?_)
            refine gx_aload_n 0 dX11_note_90 rfl rfl ?_
            refine gx_getR kf_RX11_7 dX11_note_91 (fun a15 => ?_)
            refine gx_bipush (40 : Int32) dX11_note_94 (by decide) ?_
            refine gx_dup2 dX11_note_96 rfl rfl ?_
            refine gx_iald dX11_note_97 (fun x16 => ?_)
            refine gx_iconst (1 : Int32) dX11_note_98 (by decide) ?_
            refine gx_iadd dX11_note_99 ?_
            refine gx_iast dX11_note_100 (fun h17 => ?_)
            refine gx_aload_n 0 dX11_note_101 rfl rfl ?_
            refine gx_getR kf_RX11_7 dX11_note_102 (fun a18 => ?_)
            refine gx_bipush (40 : Int32) dX11_note_105 (by decide) ?_
            refine gx_iald dX11_note_107 (fun x19 => ?_)
            exact gx_iret dX11_note_108 rfl
          · refine gx_aload_n 0 dX11_note_64 rfl rfl ?_
            refine gx_callV (ci := 9) (bc := 0) (bs := 0) (mc := 0) (ms := 0) (em' := (fun x : Int32 => some (.int x))) [] kc_RX11_98 rfl dX11_note_65 rfl rfl (gx_w8 rfl) (fun x q => (gx_isO_of (by unfold fX11_full at q; exact q)).2) (fun _ _ q => okX11_full (d + 1) q) (fun x21 h20 => ?_)
            exact gx_iret dX11_note_68 rfl
        · exact gx_sub (gX11_note_45 v0 h7) (And.intro rfl True.intro)
theorem okX11_note {E : gx_Env} (d : Nat) {v0 : Nat} {v1 : Int32} {v2 : Int32} {v3 : Int32} {v4 : Int32} {h : gx_H} {r : Int32} {h1 : gx_H} (q : fX11_note v0 v1 v2 v3 v4 h = some (r, h1)) : gx_M E yX11_note cX11_note 5 (some .int) (d + 2) 0 0 [.ref v0, .int v1, .int v2, .int v3, .int v4] h ((fun x : Int32 => some (.int x)) r) h1 := gx_meth (y := yX11_note) (cc := cX11_note) (nL := 5) (em := (fun x : Int32 => some (.int x))) (ini := false) [.ref v0, .int v1, .int v2, .int v3, .int v4] (by decide) (by simp [gx_sl]) (fun q => by cases q) (geX11_note v0 v1 v2 v3 v4 h) q
theorem dX11_mark_0 : decode cX11_mark 0 = .ok (.aload_n 0, 1) := by decide +kernel
theorem dX11_mark_1 : decode cX11_mark 1 = .ok (.iload_n 1, 1) := by decide +kernel
theorem dX11_mark_2 : decode cX11_mark 2 = .ok (.invokevirtual 185, 3) := by decide +kernel
theorem dX11_mark_5 : decode cX11_mark 5 = .ok (.ifCond .eq 40, 3) := by decide +kernel
theorem dX11_mark_8 : decode cX11_mark 8 = .ok (.iload_n 2, 1) := by decide +kernel
theorem dX11_mark_9 : decode cX11_mark 9 = .ok (.i2l, 1) := by decide +kernel
theorem dX11_mark_10 : decode cX11_mark 10 = .ok (.lconst 0, 1) := by decide +kernel
theorem dX11_mark_11 : decode cX11_mark 11 = .ok (.ldc2_w 75, 3) := by decide +kernel
theorem dX11_mark_14 : decode cX11_mark 14 = .ok (.invokestatic 39, 3) := by decide +kernel
theorem dX11_mark_17 : decode cX11_mark 17 = .ok (.ifCond .eq 28, 3) := by decide +kernel
theorem dX11_mark_20 : decode cX11_mark 20 = .ok (.iload_n 3, 1) := by decide +kernel
theorem dX11_mark_21 : decode cX11_mark 21 = .ok (.i2l, 1) := by decide +kernel
theorem dX11_mark_22 : decode cX11_mark 22 = .ok (.lconst 1, 1) := by decide +kernel
theorem dX11_mark_23 : decode cX11_mark 23 = .ok (.ldc2_w 79, 3) := by decide +kernel
theorem dX11_mark_26 : decode cX11_mark 26 = .ok (.invokestatic 39, 3) := by decide +kernel
theorem dX11_mark_29 : decode cX11_mark 29 = .ok (.ifCond .eq 16, 3) := by decide +kernel
theorem dX11_mark_32 : decode cX11_mark 32 = .ok (.iload 4, 2) := by decide +kernel
theorem dX11_mark_34 : decode cX11_mark 34 = .ok (.i2l, 1) := by decide +kernel
theorem dX11_mark_35 : decode cX11_mark 35 = .ok (.lconst 0, 1) := by decide +kernel
theorem dX11_mark_36 : decode cX11_mark 36 = .ok (.ldc2_w 75, 3) := by decide +kernel
theorem dX11_mark_39 : decode cX11_mark 39 = .ok (.invokestatic 39, 3) := by decide +kernel
theorem dX11_mark_42 : decode cX11_mark 42 = .ok (.ifCond .ne 10, 3) := by decide +kernel
theorem dX11_mark_45 : decode cX11_mark 45 = .ok (.aload_n 0, 1) := by decide +kernel
theorem dX11_mark_46 : decode cX11_mark 46 = .ok (.bipush (-2), 2) := by decide +kernel
theorem dX11_mark_48 : decode cX11_mark 48 = .ok (.invokevirtual 81, 3) := by decide +kernel
theorem dX11_mark_51 : decode cX11_mark 51 = .ok (.ireturn, 1) := by decide +kernel
theorem dX11_mark_52 : decode cX11_mark 52 = .ok (.aload_n 0, 1) := by decide +kernel
theorem dX11_mark_53 : decode cX11_mark 53 = .ok (.getfield 7, 3) := by decide +kernel
theorem dX11_mark_56 : decode cX11_mark 56 = .ok (.bipush 65, 2) := by decide +kernel
theorem dX11_mark_58 : decode cX11_mark 58 = .ok (.iaload, 1) := by decide +kernel
theorem dX11_mark_59 : decode cX11_mark 59 = .ok (.bipush 6, 2) := by decide +kernel
theorem dX11_mark_61 : decode cX11_mark 61 = .ok (.if_icmp .ne 8, 3) := by decide +kernel
theorem dX11_mark_64 : decode cX11_mark 64 = .ok (.aload_n 0, 1) := by decide +kernel
theorem dX11_mark_65 : decode cX11_mark 65 = .ok (.invokevirtual 98, 3) := by decide +kernel
theorem dX11_mark_68 : decode cX11_mark 68 = .ok (.ireturn, 1) := by decide +kernel
theorem dX11_mark_69 : decode cX11_mark 69 = .ok (.aload_n 0, 1) := by decide +kernel
theorem dX11_mark_70 : decode cX11_mark 70 = .ok (.bipush 66, 2) := by decide +kernel
theorem dX11_mark_72 : decode cX11_mark 72 = .ok (.iconst 4, 1) := by decide +kernel
theorem dX11_mark_73 : decode cX11_mark 73 = .ok (.aload_n 0, 1) := by decide +kernel
theorem dX11_mark_74 : decode cX11_mark 74 = .ok (.getfield 7, 3) := by decide +kernel
theorem dX11_mark_77 : decode cX11_mark 77 = .ok (.bipush 65, 2) := by decide +kernel
theorem dX11_mark_79 : decode cX11_mark 79 = .ok (.iaload, 1) := by decide +kernel
theorem dX11_mark_80 : decode cX11_mark 80 = .ok (.imul, 1) := by decide +kernel
theorem dX11_mark_81 : decode cX11_mark 81 = .ok (.iadd, 1) := by decide +kernel
theorem dX11_mark_82 : decode cX11_mark 82 = .ok (.iload_n 1, 1) := by decide +kernel
theorem dX11_mark_83 : decode cX11_mark 83 = .ok (.iload_n 2, 1) := by decide +kernel
theorem dX11_mark_84 : decode cX11_mark 84 = .ok (.iload_n 3, 1) := by decide +kernel
theorem dX11_mark_85 : decode cX11_mark 85 = .ok (.iload 4, 2) := by decide +kernel
theorem dX11_mark_87 : decode cX11_mark 87 = .ok (.invokevirtual 222, 3) := by decide +kernel
theorem dX11_mark_90 : decode cX11_mark 90 = .ok (.aload_n 0, 1) := by decide +kernel
theorem dX11_mark_91 : decode cX11_mark 91 = .ok (.getfield 7, 3) := by decide +kernel
theorem dX11_mark_94 : decode cX11_mark 94 = .ok (.bipush 65, 2) := by decide +kernel
theorem dX11_mark_96 : decode cX11_mark 96 = .ok (.dup2, 1) := by decide +kernel
theorem dX11_mark_97 : decode cX11_mark 97 = .ok (.iaload, 1) := by decide +kernel
theorem dX11_mark_98 : decode cX11_mark 98 = .ok (.iconst 1, 1) := by decide +kernel
theorem dX11_mark_99 : decode cX11_mark 99 = .ok (.iadd, 1) := by decide +kernel
theorem dX11_mark_100 : decode cX11_mark 100 = .ok (.iastore, 1) := by decide +kernel
theorem dX11_mark_101 : decode cX11_mark 101 = .ok (.aload_n 0, 1) := by decide +kernel
theorem dX11_mark_102 : decode cX11_mark 102 = .ok (.getfield 7, 3) := by decide +kernel
theorem dX11_mark_105 : decode cX11_mark 105 = .ok (.bipush 65, 2) := by decide +kernel
theorem dX11_mark_107 : decode cX11_mark 107 = .ok (.iaload, 1) := by decide +kernel
theorem dX11_mark_108 : decode cX11_mark 108 = .ok (.ireturn, 1) := by decide +kernel
def fX11_mark_45 (v0 : Nat) (h : gx_H) : Option (Int32 × gx_H) :=
  gx_bd (fX11_bad v0 (-2 : Int32) h) fun x23 h22 =>
  some (x23, h22)
def fX11_mark (v0 : Nat) (v1 : Int32) (v2 : Int32) (v3 : Int32) (v4 : Int32) (h : gx_H) : Option (Int32 × gx_H) :=
  (gx_isO h v0 9).bind fun _ =>
  gx_bd (fX11_isPlayer v0 v1 h) fun x2 h1 =>
  if x2 = 0 then
    fX11_mark_45 v0 h1
  else
    gx_bd (fX11_in ((v2).toInt64) (0 : Int64) (40 : Int64) h1) fun x4 h3 =>
    if x4 = 0 then
      fX11_mark_45 v0 h3
    else
      gx_bd (fX11_in ((v3).toInt64) (1 : Int64) (6 : Int64) h3) fun x6 h5 =>
      if x6 = 0 then
        fX11_mark_45 v0 h5
      else
        gx_bd (fX11_in ((v4).toInt64) (0 : Int64) (40 : Int64) h5) fun x8 h7 =>
        if x8 = 0 then
          fX11_mark_45 v0 h7
        else
          (gx_fR h7 v0 9 0).bind fun a9 =>
          (gx_aI 0 h7 a9 (65 : Int32)).bind fun x10 =>
          if x10 = (6 : Int32) then
            gx_bd (fX11_full v0 h7) fun x21 h20 =>
            some (x21, h20)
          else
            (gx_fR h7 v0 9 0).bind fun a11 =>
            (gx_aI 0 h7 a11 (65 : Int32)).bind fun x12 =>
            gx_bd (fX11_keeps v0 ((66 : Int32) + ((4 : Int32) * x12)) v1 v2 v3 v4 h7) fun u14 h13 =>
            (gx_fR h13 v0 9 0).bind fun a15 =>
            (gx_aI 0 h13 a15 (65 : Int32)).bind fun x16 =>
            (gx_sI 0 h13 a15 (65 : Int32) (x16 + (1 : Int32))).bind fun h17 =>
            (gx_fR h17 v0 9 0).bind fun a18 =>
            (gx_aI 0 h17 a18 (65 : Int32)).bind fun x19 =>
            some (x19, h17)
set_option maxRecDepth 100000 in
set_option maxHeartbeats 4000000 in
theorem gX11_mark_45 {E : gx_Env} {d : Nat}  : ∀ (v0 : Nat) (h : gx_H), gx_G E RX11 cX11_mark 5 (some .int) false (d + 2) 0 0 45 [some (.ref v0), none, none, none, none] [] h (fun x : Int32 => some (.int x)) (fX11_mark_45 v0 h) := by
  intro v0 h
  unfold fX11_mark_45
  refine gx_aload_n 0 dX11_mark_45 rfl rfl ?_
  refine gx_bipush (-2 : Int32) dX11_mark_46 (by decide) ?_
  refine gx_callV (ci := 9) (bc := 0) (bs := 0) (mc := 0) (ms := 0) (em' := (fun x : Int32 => some (.int x))) [.int (-2 : Int32)] kc_RX11_81 rfl dX11_mark_48 rfl rfl (gx_w8 rfl) (fun x q => (gx_isO_of (by unfold fX11_bad at q; exact q)).2) (fun _ _ q => okX11_bad (d + 1) q) (fun x23 h22 => ?_)
  exact gx_iret dX11_mark_51 rfl
set_option maxRecDepth 100000 in
set_option maxHeartbeats 4000000 in
theorem geX11_mark {E : gx_Env} {d : Nat} (v0 : Nat) (v1 : Int32) (v2 : Int32) (v3 : Int32) (v4 : Int32) (h : gx_H) : gx_G E RX11 cX11_mark 5 (some .int) false (d + 2) 0 0 0 [some (.ref v0), some (.int v1), some (.int v2), some (.int v3), some (.int v4)] [] h (fun x : Int32 => some (.int x)) (fX11_mark v0 v1 v2 v3 v4 h) := by
  unfold fX11_mark
  refine gx_bind fun _ _ => ?_
  refine gx_aload_n 0 dX11_mark_0 rfl rfl ?_
  refine gx_iload_n 1 dX11_mark_1 rfl rfl ?_
  refine gx_callV (ci := 9) (bc := 0) (bs := 0) (mc := 0) (ms := 0) (em' := (fun x : Int32 => some (.int x))) [.int v1] kc_RX11_185 rfl dX11_mark_2 rfl rfl (gx_w8 rfl) (fun x q => (gx_isO_of (by unfold fX11_isPlayer at q; exact q)).2) (fun _ _ q => okX11_isPlayer d q) (fun x2 h1 => ?_)
  refine gx_if_eq 45 dX11_mark_5 (by decide) (fun _ => ?_) (fun _ => ?_)
  · exact gx_sub (gX11_mark_45 v0 h1) (And.intro rfl True.intro)
  · refine gx_iload_n 2 dX11_mark_8 rfl rfl ?_
    refine gx_i2l dX11_mark_9 ?_
    refine gx_lconst (0 : Int64) dX11_mark_10 (by decide) ?_
    refine gx_ldc2 kk_RX11_75 dX11_mark_11 ?_
    refine gx_callS (bc := 0) (bs := 0) (mc := 0) (ms := 0) (em' := (fun x : Int32 => some (.int x))) [.long ((v2).toInt64), .long (0 : Int64), .long (40 : Int64)] kc_RX11_39 dX11_mark_14 rfl rfl (gx_w8 rfl) (fun _ _ q => okX11_in (d + 1) q) (fun x4 h3 => ?_)
    refine gx_if_eq 45 dX11_mark_17 (by decide) (fun _ => ?_) (fun _ => ?_)
    · exact gx_sub (gX11_mark_45 v0 h3) (And.intro rfl True.intro)
    · refine gx_iload_n 3 dX11_mark_20 rfl rfl ?_
      refine gx_i2l dX11_mark_21 ?_
      refine gx_lconst (1 : Int64) dX11_mark_22 (by decide) ?_
      refine gx_ldc2 kk_RX11_79 dX11_mark_23 ?_
      refine gx_callS (bc := 0) (bs := 0) (mc := 0) (ms := 0) (em' := (fun x : Int32 => some (.int x))) [.long ((v3).toInt64), .long (1 : Int64), .long (6 : Int64)] kc_RX11_39 dX11_mark_26 rfl rfl (gx_w8 rfl) (fun _ _ q => okX11_in (d + 1) q) (fun x6 h5 => ?_)
      refine gx_if_eq 45 dX11_mark_29 (by decide) (fun _ => ?_) (fun _ => ?_)
      · exact gx_sub (gX11_mark_45 v0 h5) (And.intro rfl True.intro)
      · refine gx_iload dX11_mark_32 rfl ?_
        refine gx_i2l dX11_mark_34 ?_
        refine gx_lconst (0 : Int64) dX11_mark_35 (by decide) ?_
        refine gx_ldc2 kk_RX11_75 dX11_mark_36 ?_
        refine gx_callS (bc := 0) (bs := 0) (mc := 0) (ms := 0) (em' := (fun x : Int32 => some (.int x))) [.long ((v4).toInt64), .long (0 : Int64), .long (40 : Int64)] kc_RX11_39 dX11_mark_39 rfl rfl (gx_w8 rfl) (fun _ _ q => okX11_in (d + 1) q) (fun x8 h7 => ?_)
        refine gx_if_ne 52 dX11_mark_42 (by decide) (fun _ => ?_) (fun _ => ?_)
        · refine gx_aload_n 0 dX11_mark_52 rfl rfl ?_
          refine gx_getR kf_RX11_7 dX11_mark_53 (fun a9 => ?_)
          refine gx_bipush (65 : Int32) dX11_mark_56 (by decide) ?_
          refine gx_iald dX11_mark_58 (fun x10 => ?_)
          refine gx_bipush (6 : Int32) dX11_mark_59 (by decide) ?_
          refine gx_icmp_ne 69 dX11_mark_61 (by decide) (fun _ => ?_) (fun _ => ?_)
          · refine gx_aload_n 0 dX11_mark_69 rfl rfl ?_
            refine gx_bipush (66 : Int32) dX11_mark_70 (by decide) ?_
            refine gx_iconst (4 : Int32) dX11_mark_72 (by decide) ?_
            refine gx_aload_n 0 dX11_mark_73 rfl rfl ?_
            refine gx_getR kf_RX11_7 dX11_mark_74 (fun a11 => ?_)
            refine gx_bipush (65 : Int32) dX11_mark_77 (by decide) ?_
            refine gx_iald dX11_mark_79 (fun x12 => ?_)
            refine gx_imul dX11_mark_80 ?_
            refine gx_iadd dX11_mark_81 ?_
            refine gx_iload_n 1 dX11_mark_82 rfl rfl ?_
            refine gx_iload_n 2 dX11_mark_83 rfl rfl ?_
            refine gx_iload_n 3 dX11_mark_84 rfl rfl ?_
            refine gx_iload dX11_mark_85 rfl ?_
            refine gx_callV (ci := 9) (bc := 0) (bs := 0) (mc := 0) (ms := 0) (em' := (fun _ : Unit => none)) [.int ((66 : Int32) + ((4 : Int32) * x12)), .int v1, .int v2, .int v3, .int v4] kc_RX11_222 rfl dX11_mark_87 rfl rfl (gx_w8 rfl) (fun x q => (gx_isO_of (by unfold fX11_keeps at q; exact q)).2) (fun _ _ q => okX11_keeps (d + 1) q) (fun u14 h13 => ?_)
            refine gx_aload_n 0 dX11_mark_90 rfl rfl ?_
            refine gx_getR kf_RX11_7 dX11_mark_91 (fun a15 => ?_)
            refine gx_bipush (65 : Int32) dX11_mark_94 (by decide) ?_
            refine gx_dup2 dX11_mark_96 rfl rfl ?_
            refine gx_iald dX11_mark_97 (fun x16 => ?_)
            refine gx_iconst (1 : Int32) dX11_mark_98 (by decide) ?_
            refine gx_iadd dX11_mark_99 ?_
            refine gx_iast dX11_mark_100 (fun h17 => ?_)
            refine gx_aload_n 0 dX11_mark_101 rfl rfl ?_
            refine gx_getR kf_RX11_7 dX11_mark_102 (fun a18 => ?_)
            refine gx_bipush (65 : Int32) dX11_mark_105 (by decide) ?_
            refine gx_iald dX11_mark_107 (fun x19 => ?_)
            exact gx_iret dX11_mark_108 rfl
          · refine gx_aload_n 0 dX11_mark_64 rfl rfl ?_
            refine gx_callV (ci := 9) (bc := 0) (bs := 0) (mc := 0) (ms := 0) (em' := (fun x : Int32 => some (.int x))) [] kc_RX11_98 rfl dX11_mark_65 rfl rfl (gx_w8 rfl) (fun x q => (gx_isO_of (by unfold fX11_full at q; exact q)).2) (fun _ _ q => okX11_full (d + 1) q) (fun x21 h20 => ?_)
            exact gx_iret dX11_mark_68 rfl
        · exact gx_sub (gX11_mark_45 v0 h7) (And.intro rfl True.intro)
theorem okX11_mark {E : gx_Env} (d : Nat) {v0 : Nat} {v1 : Int32} {v2 : Int32} {v3 : Int32} {v4 : Int32} {h : gx_H} {r : Int32} {h1 : gx_H} (q : fX11_mark v0 v1 v2 v3 v4 h = some (r, h1)) : gx_M E yX11_mark cX11_mark 5 (some .int) (d + 2) 0 0 [.ref v0, .int v1, .int v2, .int v3, .int v4] h ((fun x : Int32 => some (.int x)) r) h1 := gx_meth (y := yX11_mark) (cc := cX11_mark) (nL := 5) (em := (fun x : Int32 => some (.int x))) (ini := false) [.ref v0, .int v1, .int v2, .int v3, .int v4] (by decide) (by simp [gx_sl]) (fun q => by cases q) (geX11_mark v0 v1 v2 v3 v4 h) q
theorem dX11_forget_0 : decode cX11_forget 0 = .ok (.iload_n 1, 1) := by decide +kernel
theorem dX11_forget_1 : decode cX11_forget 1 = .ok (.i2l, 1) := by decide +kernel
theorem dX11_forget_2 : decode cX11_forget 2 = .ok (.lconst 0, 1) := by decide +kernel
theorem dX11_forget_3 : decode cX11_forget 3 = .ok (.lconst 1, 1) := by decide +kernel
theorem dX11_forget_4 : decode cX11_forget 4 = .ok (.invokestatic 39, 3) := by decide +kernel
theorem dX11_forget_7 : decode cX11_forget 7 = .ok (.ifCond .ne 10, 3) := by decide +kernel
theorem dX11_forget_10 : decode cX11_forget 10 = .ok (.aload_n 0, 1) := by decide +kernel
theorem dX11_forget_11 : decode cX11_forget 11 = .ok (.bipush (-2), 2) := by decide +kernel
theorem dX11_forget_13 : decode cX11_forget 13 = .ok (.invokevirtual 81, 3) := by decide +kernel
theorem dX11_forget_16 : decode cX11_forget 16 = .ok (.ireturn, 1) := by decide +kernel
theorem dX11_forget_17 : decode cX11_forget 17 = .ok (.iload_n 1, 1) := by decide +kernel
theorem dX11_forget_18 : decode cX11_forget 18 = .ok (.ifCond .ne 8, 3) := by decide +kernel
theorem dX11_forget_21 : decode cX11_forget 21 = .ok (.bipush 40, 2) := by decide +kernel
theorem dX11_forget_23 : decode cX11_forget 23 = .ok (.goto 5, 3) := by decide +kernel
theorem dX11_forget_26 : decode cX11_forget 26 = .ok (.bipush 65, 2) := by decide +kernel
theorem dX11_forget_28 : decode cX11_forget 28 = .ok (.istore_n 2, 1) := by decide +kernel
theorem dX11_forget_29 : decode cX11_forget 29 = .ok (.aload_n 0, 1) := by decide +kernel
theorem dX11_forget_30 : decode cX11_forget 30 = .ok (.getfield 7, 3) := by decide +kernel
theorem dX11_forget_33 : decode cX11_forget 33 = .ok (.iload_n 2, 1) := by decide +kernel
theorem dX11_forget_34 : decode cX11_forget 34 = .ok (.iaload, 1) := by decide +kernel
theorem dX11_forget_35 : decode cX11_forget 35 = .ok (.istore_n 3, 1) := by decide +kernel
theorem dX11_forget_36 : decode cX11_forget 36 = .ok (.aload_n 0, 1) := by decide +kernel
theorem dX11_forget_37 : decode cX11_forget 37 = .ok (.getfield 7, 3) := by decide +kernel
theorem dX11_forget_40 : decode cX11_forget 40 = .ok (.iload_n 2, 1) := by decide +kernel
theorem dX11_forget_41 : decode cX11_forget 41 = .ok (.iconst 0, 1) := by decide +kernel
theorem dX11_forget_42 : decode cX11_forget 42 = .ok (.iastore, 1) := by decide +kernel
theorem dX11_forget_43 : decode cX11_forget 43 = .ok (.iload_n 3, 1) := by decide +kernel
theorem dX11_forget_44 : decode cX11_forget 44 = .ok (.ireturn, 1) := by decide +kernel
def fX11_forget_28 (v0 : Nat) (s0 : Int32) (h : gx_H) : Option (Int32 × gx_H) :=
  (gx_fR h v0 9 0).bind fun a5 =>
  (gx_aI 0 h a5 s0).bind fun x6 =>
  (gx_fR h v0 9 0).bind fun a7 =>
  (gx_sI 0 h a7 s0 (0 : Int32)).bind fun h8 =>
  some (x6, h8)
def fX11_forget (v0 : Nat) (v1 : Int32) (h : gx_H) : Option (Int32 × gx_H) :=
  (gx_isO h v0 9).bind fun _ =>
  gx_bd (fX11_in ((v1).toInt64) (0 : Int64) (1 : Int64) h) fun x2 h1 =>
  if x2 = 0 then
    gx_bd (fX11_bad v0 (-2 : Int32) h1) fun x4 h3 =>
    some (x4, h3)
  else
    if v1 = 0 then
      fX11_forget_28 v0 (40 : Int32) h1
    else
      fX11_forget_28 v0 (65 : Int32) h1
set_option maxRecDepth 100000 in
set_option maxHeartbeats 4000000 in
theorem gX11_forget_28 {E : gx_Env} {d : Nat}  : ∀ (v0 : Nat) (s0 : Int32) (h : gx_H), gx_G E RX11 cX11_forget 4 (some .int) false (d + 1) 0 0 28 [some (.ref v0), none, none, none] [.int s0] h (fun x : Int32 => some (.int x)) (fX11_forget_28 v0 s0 h) := by
  intro v0 s0 h
  unfold fX11_forget_28
  refine gx_istore_n 2 [some (.ref v0), none, some (.int s0), none] dX11_forget_28 rfl (by decide) rfl ?_
  refine gx_aload_n 0 dX11_forget_29 rfl rfl ?_
  refine gx_getR kf_RX11_7 dX11_forget_30 (fun a5 => ?_)
  refine gx_iload_n 2 dX11_forget_33 rfl rfl ?_
  refine gx_iald dX11_forget_34 (fun x6 => ?_)
  refine gx_istore_n 3 [some (.ref v0), none, some (.int s0), some (.int x6)] dX11_forget_35 rfl (by decide) rfl ?_
  refine gx_aload_n 0 dX11_forget_36 rfl rfl ?_
  refine gx_getR kf_RX11_7 dX11_forget_37 (fun a7 => ?_)
  refine gx_iload_n 2 dX11_forget_40 rfl rfl ?_
  refine gx_iconst (0 : Int32) dX11_forget_41 (by decide) ?_
  refine gx_iast dX11_forget_42 (fun h8 => ?_)
  refine gx_iload_n 3 dX11_forget_43 rfl rfl ?_
  exact gx_iret dX11_forget_44 rfl
set_option maxRecDepth 100000 in
set_option maxHeartbeats 4000000 in
theorem geX11_forget {E : gx_Env} {d : Nat} (v0 : Nat) (v1 : Int32) (h : gx_H) : gx_G E RX11 cX11_forget 4 (some .int) false (d + 1) 0 0 0 [some (.ref v0), some (.int v1), none, none] [] h (fun x : Int32 => some (.int x)) (fX11_forget v0 v1 h) := by
  unfold fX11_forget
  refine gx_bind fun _ _ => ?_
  refine gx_iload_n 1 dX11_forget_0 rfl rfl ?_
  refine gx_i2l dX11_forget_1 ?_
  refine gx_lconst (0 : Int64) dX11_forget_2 (by decide) ?_
  refine gx_lconst (1 : Int64) dX11_forget_3 (by decide) ?_
  refine gx_callS (bc := 0) (bs := 0) (mc := 0) (ms := 0) (em' := (fun x : Int32 => some (.int x))) [.long ((v1).toInt64), .long (0 : Int64), .long (1 : Int64)] kc_RX11_39 dX11_forget_4 rfl rfl (gx_w8 rfl) (fun _ _ q => okX11_in d q) (fun x2 h1 => ?_)
  refine gx_if_ne 17 dX11_forget_7 (by decide) (fun _ => ?_) (fun _ => ?_)
  · refine gx_iload_n 1 dX11_forget_17 rfl rfl ?_
    refine gx_if_ne 26 dX11_forget_18 (by decide) (fun _ => ?_) (fun _ => ?_)
    · refine gx_bipush (65 : Int32) dX11_forget_26 (by decide) ?_
      exact gx_sub (gX11_forget_28 v0 (65 : Int32) h1) (And.intro rfl True.intro)
    · refine gx_bipush (40 : Int32) dX11_forget_21 (by decide) ?_
      refine gx_goto 28 dX11_forget_23 (by decide) ?_
      exact gx_sub (gX11_forget_28 v0 (40 : Int32) h1) (And.intro rfl True.intro)
  · refine gx_aload_n 0 dX11_forget_10 rfl rfl ?_
    refine gx_bipush (-2 : Int32) dX11_forget_11 (by decide) ?_
    refine gx_callV (ci := 9) (bc := 0) (bs := 0) (mc := 0) (ms := 0) (em' := (fun x : Int32 => some (.int x))) [.int (-2 : Int32)] kc_RX11_81 rfl dX11_forget_13 rfl rfl (gx_w8 rfl) (fun x q => (gx_isO_of (by unfold fX11_bad at q; exact q)).2) (fun _ _ q => okX11_bad d q) (fun x4 h3 => ?_)
    exact gx_iret dX11_forget_16 rfl
theorem okX11_forget {E : gx_Env} (d : Nat) {v0 : Nat} {v1 : Int32} {h : gx_H} {r : Int32} {h1 : gx_H} (q : fX11_forget v0 v1 h = some (r, h1)) : gx_M E yX11_forget cX11_forget 4 (some .int) (d + 1) 0 0 [.ref v0, .int v1] h ((fun x : Int32 => some (.int x)) r) h1 := gx_meth (y := yX11_forget) (cc := cX11_forget) (nL := 4) (em := (fun x : Int32 => some (.int x))) (ini := false) [.ref v0, .int v1] (by decide) (by simp [gx_sl]) (fun q => by cases q) (geX11_forget v0 v1 h) q
theorem dX11_leads_0 : decode cX11_leads 0 = .ok (.iload_n 1, 1) := by decide +kernel
theorem dX11_leads_1 : decode cX11_leads 1 = .ok (.aload_n 0, 1) := by decide +kernel
theorem dX11_leads_2 : decode cX11_leads 2 = .ok (.getfield 7, 3) := by decide +kernel
theorem dX11_leads_5 : decode cX11_leads 5 = .ok (.iconst 0, 1) := by decide +kernel
theorem dX11_leads_6 : decode cX11_leads 6 = .ok (.iaload, 1) := by decide +kernel
theorem dX11_leads_7 : decode cX11_leads 7 = .ok (.aload_n 0, 1) := by decide +kernel
theorem dX11_leads_8 : decode cX11_leads 8 = .ok (.getfield 7, 3) := by decide +kernel
theorem dX11_leads_11 : decode cX11_leads 11 = .ok (.bipush 10, 2) := by decide +kernel
theorem dX11_leads_13 : decode cX11_leads 13 = .ok (.iload_n 2, 1) := by decide +kernel
theorem dX11_leads_14 : decode cX11_leads 14 = .ok (.iadd, 1) := by decide +kernel
theorem dX11_leads_15 : decode cX11_leads 15 = .ok (.iaload, 1) := by decide +kernel
theorem dX11_leads_16 : decode cX11_leads 16 = .ok (.aload_n 0, 1) := by decide +kernel
theorem dX11_leads_17 : decode cX11_leads 17 = .ok (.getfield 7, 3) := by decide +kernel
theorem dX11_leads_20 : decode cX11_leads 20 = .ok (.bipush 16, 2) := by decide +kernel
theorem dX11_leads_22 : decode cX11_leads 22 = .ok (.iload_n 2, 1) := by decide +kernel
theorem dX11_leads_23 : decode cX11_leads 23 = .ok (.iadd, 1) := by decide +kernel
theorem dX11_leads_24 : decode cX11_leads 24 = .ok (.iaload, 1) := by decide +kernel
theorem dX11_leads_25 : decode cX11_leads 25 = .ok (.iload_n 3, 1) := by decide +kernel
theorem dX11_leads_26 : decode cX11_leads 26 = .ok (.iload 4, 2) := by decide +kernel
theorem dX11_leads_28 : decode cX11_leads 28 = .ok (.invokestatic 69, 3) := by decide +kernel
theorem dX11_leads_31 : decode cX11_leads 31 = .ok (.ireturn, 1) := by decide +kernel
def fX11_leads (v0 : Nat) (v1 : Int32) (v2 : Int32) (v3 : Int32) (v4 : Int32) (h : gx_H) : Option (Int32 × gx_H) :=
  (gx_isO h v0 9).bind fun _ =>
  (gx_fR h v0 9 0).bind fun a1 =>
  (gx_aI 0 h a1 (0 : Int32)).bind fun x2 =>
  (gx_fR h v0 9 0).bind fun a3 =>
  (gx_aI 0 h a3 ((10 : Int32) + v2)).bind fun x4 =>
  (gx_fR h v0 9 0).bind fun a5 =>
  (gx_aI 0 h a5 ((16 : Int32) + v2)).bind fun x6 =>
  gx_bd (fX11_leadsBy v1 x2 x4 x6 v3 v4 h) fun x8 h7 =>
  some (x8, h7)
set_option maxRecDepth 100000 in
set_option maxHeartbeats 4000000 in
theorem geX11_leads {E : gx_Env} {d : Nat} (v0 : Nat) (v1 : Int32) (v2 : Int32) (v3 : Int32) (v4 : Int32) (h : gx_H) : gx_G E RX11 cX11_leads 5 (some .int) false (d + 2) 0 0 0 [some (.ref v0), some (.int v1), some (.int v2), some (.int v3), some (.int v4)] [] h (fun x : Int32 => some (.int x)) (fX11_leads v0 v1 v2 v3 v4 h) := by
  unfold fX11_leads
  refine gx_bind fun _ _ => ?_
  refine gx_iload_n 1 dX11_leads_0 rfl rfl ?_
  refine gx_aload_n 0 dX11_leads_1 rfl rfl ?_
  refine gx_getR kf_RX11_7 dX11_leads_2 (fun a1 => ?_)
  refine gx_iconst (0 : Int32) dX11_leads_5 (by decide) ?_
  refine gx_iald dX11_leads_6 (fun x2 => ?_)
  refine gx_aload_n 0 dX11_leads_7 rfl rfl ?_
  refine gx_getR kf_RX11_7 dX11_leads_8 (fun a3 => ?_)
  refine gx_bipush (10 : Int32) dX11_leads_11 (by decide) ?_
  refine gx_iload_n 2 dX11_leads_13 rfl rfl ?_
  refine gx_iadd dX11_leads_14 ?_
  refine gx_iald dX11_leads_15 (fun x4 => ?_)
  refine gx_aload_n 0 dX11_leads_16 rfl rfl ?_
  refine gx_getR kf_RX11_7 dX11_leads_17 (fun a5 => ?_)
  refine gx_bipush (16 : Int32) dX11_leads_20 (by decide) ?_
  refine gx_iload_n 2 dX11_leads_22 rfl rfl ?_
  refine gx_iadd dX11_leads_23 ?_
  refine gx_iald dX11_leads_24 (fun x6 => ?_)
  refine gx_iload_n 3 dX11_leads_25 rfl rfl ?_
  refine gx_iload dX11_leads_26 rfl ?_
  refine gx_callS (bc := 0) (bs := 0) (mc := 0) (ms := 0) (em' := (fun x : Int32 => some (.int x))) [.int v1, .int x2, .int x4, .int x6, .int v3, .int v4] kc_RX11_69 dX11_leads_28 rfl rfl (gx_w8 rfl) (fun _ _ q => okX11_leadsBy d q) (fun x8 h7 => ?_)
  exact gx_iret dX11_leads_31 rfl
theorem okX11_leads {E : gx_Env} (d : Nat) {v0 : Nat} {v1 : Int32} {v2 : Int32} {v3 : Int32} {v4 : Int32} {h : gx_H} {r : Int32} {h1 : gx_H} (q : fX11_leads v0 v1 v2 v3 v4 h = some (r, h1)) : gx_M E yX11_leads cX11_leads 5 (some .int) (d + 2) 0 0 [.ref v0, .int v1, .int v2, .int v3, .int v4] h ((fun x : Int32 => some (.int x)) r) h1 := gx_meth (y := yX11_leads) (cc := cX11_leads) (nL := 5) (em := (fun x : Int32 => some (.int x))) (ini := false) [.ref v0, .int v1, .int v2, .int v3, .int v4] (by decide) (by simp [gx_sl]) (fun q => by cases q) (geX11_leads v0 v1 v2 v3 v4 h) q
theorem dX11_isOf_0 : decode cX11_isOf 0 = .ok (.bipush 63, 2) := by decide +kernel
theorem dX11_isOf_2 : decode cX11_isOf 2 = .ok (.istore_n 2, 1) := by decide +kernel
theorem dX11_isOf_3 : decode cX11_isOf 3 = .ok (.iconst 0, 1) := by decide +kernel
theorem dX11_isOf_4 : decode cX11_isOf 4 = .ok (.istore_n 3, 1) := by decide +kernel
theorem dX11_isOf_5 : decode cX11_isOf 5 = .ok (.iload_n 3, 1) := by decide +kernel
theorem dX11_isOf_6 : decode cX11_isOf 6 = .ok (.bipush 6, 2) := by decide +kernel
theorem dX11_isOf_8 : decode cX11_isOf 8 = .ok (.if_icmp .ge 94, 3) := by decide +kernel
theorem dX11_isOf_11 : decode cX11_isOf 11 = .ok (.iconst 0, 1) := by decide +kernel
theorem dX11_isOf_12 : decode cX11_isOf 12 = .ok (.istore 4, 2) := by decide +kernel
theorem dX11_isOf_14 : decode cX11_isOf 14 = .ok (.iload 4, 2) := by decide +kernel
theorem dX11_isOf_16 : decode cX11_isOf 16 = .ok (.aload_n 0, 1) := by decide +kernel
theorem dX11_isOf_17 : decode cX11_isOf 17 = .ok (.getfield 7, 3) := by decide +kernel
theorem dX11_isOf_20 : decode cX11_isOf 20 = .ok (.bipush 40, 2) := by decide +kernel
theorem dX11_isOf_22 : decode cX11_isOf 22 = .ok (.iaload, 1) := by decide +kernel
theorem dX11_isOf_23 : decode cX11_isOf 23 = .ok (.if_icmp .ge 73, 3) := by decide +kernel
theorem dX11_isOf_26 : decode cX11_isOf 26 = .ok (.bipush 41, 2) := by decide +kernel
theorem dX11_isOf_28 : decode cX11_isOf 28 = .ok (.iconst 4, 1) := by decide +kernel
theorem dX11_isOf_29 : decode cX11_isOf 29 = .ok (.iload 4, 2) := by decide +kernel
theorem dX11_isOf_31 : decode cX11_isOf 31 = .ok (.imul, 1) := by decide +kernel
theorem dX11_isOf_32 : decode cX11_isOf 32 = .ok (.iadd, 1) := by decide +kernel
theorem dX11_isOf_33 : decode cX11_isOf 33 = .ok (.istore 5, 2) := by decide +kernel
theorem dX11_isOf_35 : decode cX11_isOf 35 = .ok (.aload_n 0, 1) := by decide +kernel
theorem dX11_isOf_36 : decode cX11_isOf 36 = .ok (.getfield 7, 3) := by decide +kernel
theorem dX11_isOf_39 : decode cX11_isOf 39 = .ok (.iload 5, 2) := by decide +kernel
theorem dX11_isOf_41 : decode cX11_isOf 41 = .ok (.iaload, 1) := by decide +kernel
theorem dX11_isOf_42 : decode cX11_isOf 42 = .ok (.iload_n 1, 1) := by decide +kernel
theorem dX11_isOf_43 : decode cX11_isOf 43 = .ok (.if_icmp .ne 47, 3) := by decide +kernel
theorem dX11_isOf_46 : decode cX11_isOf 46 = .ok (.aload_n 0, 1) := by decide +kernel
theorem dX11_isOf_47 : decode cX11_isOf 47 = .ok (.iload_n 3, 1) := by decide +kernel
theorem dX11_isOf_48 : decode cX11_isOf 48 = .ok (.iload_n 1, 1) := by decide +kernel
theorem dX11_isOf_49 : decode cX11_isOf 49 = .ok (.aload_n 0, 1) := by decide +kernel
theorem dX11_isOf_50 : decode cX11_isOf 50 = .ok (.getfield 7, 3) := by decide +kernel
theorem dX11_isOf_53 : decode cX11_isOf 53 = .ok (.iload 5, 2) := by decide +kernel
theorem dX11_isOf_55 : decode cX11_isOf 55 = .ok (.iconst 1, 1) := by decide +kernel
theorem dX11_isOf_56 : decode cX11_isOf 56 = .ok (.iadd, 1) := by decide +kernel
theorem dX11_isOf_57 : decode cX11_isOf 57 = .ok (.iaload, 1) := by decide +kernel
theorem dX11_isOf_58 : decode cX11_isOf 58 = .ok (.aload_n 0, 1) := by decide +kernel
theorem dX11_isOf_59 : decode cX11_isOf 59 = .ok (.getfield 7, 3) := by decide +kernel
theorem dX11_isOf_62 : decode cX11_isOf 62 = .ok (.iload 5, 2) := by decide +kernel
theorem dX11_isOf_64 : decode cX11_isOf 64 = .ok (.iconst 2, 1) := by decide +kernel
theorem dX11_isOf_65 : decode cX11_isOf 65 = .ok (.iadd, 1) := by decide +kernel
theorem dX11_isOf_66 : decode cX11_isOf 66 = .ok (.iaload, 1) := by decide +kernel
theorem dX11_isOf_67 : decode cX11_isOf 67 = .ok (.invokevirtual 226, 3) := by decide +kernel
theorem dX11_isOf_70 : decode cX11_isOf 70 = .ok (.aload_n 0, 1) := by decide +kernel
theorem dX11_isOf_71 : decode cX11_isOf 71 = .ok (.getfield 7, 3) := by decide +kernel
theorem dX11_isOf_74 : decode cX11_isOf 74 = .ok (.iload 5, 2) := by decide +kernel
theorem dX11_isOf_76 : decode cX11_isOf 76 = .ok (.iconst 3, 1) := by decide +kernel
theorem dX11_isOf_77 : decode cX11_isOf 77 = .ok (.iadd, 1) := by decide +kernel
theorem dX11_isOf_78 : decode cX11_isOf 78 = .ok (.iaload, 1) := by decide +kernel
theorem dX11_isOf_79 : decode cX11_isOf 79 = .ok (.if_icmp .eq 11, 3) := by decide +kernel
theorem dX11_isOf_82 : decode cX11_isOf 82 = .ok (.iload_n 2, 1) := by decide +kernel
theorem dX11_isOf_83 : decode cX11_isOf 83 = .ok (.iconst 1, 1) := by decide +kernel
theorem dX11_isOf_84 : decode cX11_isOf 84 = .ok (.iload_n 3, 1) := by decide +kernel
theorem dX11_isOf_85 : decode cX11_isOf 85 = .ok (.ishl, 1) := by decide +kernel
theorem dX11_isOf_86 : decode cX11_isOf 86 = .ok (.iconst (-1), 1) := by decide +kernel
theorem dX11_isOf_87 : decode cX11_isOf 87 = .ok (.ixor, 1) := by decide +kernel
theorem dX11_isOf_88 : decode cX11_isOf 88 = .ok (.iand, 1) := by decide +kernel
theorem dX11_isOf_89 : decode cX11_isOf 89 = .ok (.istore_n 2, 1) := by decide +kernel
theorem dX11_isOf_90 : decode cX11_isOf 90 = .ok (.iinc 4 1, 3) := by decide +kernel
theorem dX11_isOf_93 : decode cX11_isOf 93 = .ok (.goto (-79), 3) := by decide +kernel
theorem dX11_isOf_96 : decode cX11_isOf 96 = .ok (.iinc 3 1, 3) := by decide +kernel
theorem dX11_isOf_99 : decode cX11_isOf 99 = .ok (.goto (-94), 3) := by decide +kernel
theorem dX11_isOf_102 : decode cX11_isOf 102 = .ok (.iload_n 2, 1) := by decide +kernel
theorem dX11_isOf_103 : decode cX11_isOf 103 = .ok (.ireturn, 1) := by decide +kernel
def fX11_isOf_90 (k5 : Nat → Int32 → Int32 → Int32 → gx_H → Option (Int32 × gx_H)) (k14 : Nat → Int32 → Int32 → Int32 → Int32 → gx_H → Option (Int32 × gx_H)) (v0 : Nat) (v1 : Int32) (v2 : Int32) (v3 : Int32) (v4 : Int32) (h : gx_H) : Option (Int32 × gx_H) :=
  k14 v0 v1 v2 v3 (v4 + (1 : Int32)) h
def bX11_isOf_14 (k5 : Nat → Int32 → Int32 → Int32 → gx_H → Option (Int32 × gx_H)) (k14 : Nat → Int32 → Int32 → Int32 → Int32 → gx_H → Option (Int32 × gx_H)) (v0 : Nat) (v1 : Int32) (v2 : Int32) (v3 : Int32) (v4 : Int32) (h : gx_H) : Option (Int32 × gx_H) :=
  (gx_fR h v0 9 0).bind fun a1 =>
  (gx_aI 0 h a1 (40 : Int32)).bind fun x2 =>
  if x2 ≤ v4 then
    k5 v0 v1 v2 (v3 + (1 : Int32)) h
  else
    (gx_fR h v0 9 0).bind fun a3 =>
    (gx_aI 0 h a3 ((41 : Int32) + ((4 : Int32) * v4))).bind fun x4 =>
    if x4 = v1 then
      (gx_fR h v0 9 0).bind fun a5 =>
      (gx_aI 0 h a5 (((41 : Int32) + ((4 : Int32) * v4)) + (1 : Int32))).bind fun x6 =>
      (gx_fR h v0 9 0).bind fun a7 =>
      (gx_aI 0 h a7 (((41 : Int32) + ((4 : Int32) * v4)) + (2 : Int32))).bind fun x8 =>
      gx_bd (fX11_leads v0 v3 v1 x6 x8 h) fun x10 h9 =>
      (gx_fR h9 v0 9 0).bind fun a11 =>
      (gx_aI 0 h9 a11 (((41 : Int32) + ((4 : Int32) * v4)) + (3 : Int32))).bind fun x12 =>
      if x10 = x12 then
        fX11_isOf_90 k5 k14 v0 v1 v2 v3 v4 h9
      else
        fX11_isOf_90 k5 k14 v0 v1 (v2 &&& (((1 : Int32) <<< (v3 &&& 31)) ^^^ (-1 : Int32))) v3 v4 h9
    else
      fX11_isOf_90 k5 k14 v0 v1 v2 v3 v4 h
def fX11_isOf_14 (k5 : Nat → Int32 → Int32 → Int32 → gx_H → Option (Int32 × gx_H)) : Nat → Nat → Int32 → Int32 → Int32 → Int32 → gx_H → Option (Int32 × gx_H)
  | 0 => fun _ _ _ _ _ _ => none
  | n + 1 => bX11_isOf_14 k5 (fX11_isOf_14 k5 n)
def bX11_isOf_5 (k5 : Nat → Int32 → Int32 → Int32 → gx_H → Option (Int32 × gx_H)) (v0 : Nat) (v1 : Int32) (v2 : Int32) (v3 : Int32) (h : gx_H) : Option (Int32 × gx_H) :=
  if (6 : Int32) ≤ v3 then
    some (v2, h)
  else
    fX11_isOf_14 k5 gx_N v0 v1 v2 v3 (0 : Int32) h
def fX11_isOf_5 : Nat → Nat → Int32 → Int32 → Int32 → gx_H → Option (Int32 × gx_H)
  | 0 => fun _ _ _ _ _ => none
  | n + 1 => bX11_isOf_5 (fX11_isOf_5 n)
def fX11_isOf (v0 : Nat) (v1 : Int32) (h : gx_H) : Option (Int32 × gx_H) :=
  (gx_isO h v0 9).bind fun _ =>
  fX11_isOf_5 gx_N v0 v1 (63 : Int32) (0 : Int32) h
set_option maxRecDepth 100000 in
set_option maxHeartbeats 4000000 in
theorem gX11_isOf_90 {E : gx_Env} {d : Nat} (k5 : Nat → Int32 → Int32 → Int32 → gx_H → Option (Int32 × gx_H)) (hk5 : ∀ (v0 : Nat) (v1 : Int32) (v2 : Int32) (v3 : Int32) (h : gx_H), gx_G E RX11 cX11_isOf 6 (some .int) false (d + 3) 0 0 5 [some (.ref v0), some (.int v1), some (.int v2), some (.int v3), none, none] [] h (fun x : Int32 => some (.int x)) (k5 v0 v1 v2 v3 h))  (k14 : Nat → Int32 → Int32 → Int32 → Int32 → gx_H → Option (Int32 × gx_H)) (hk14 : ∀ (v0 : Nat) (v1 : Int32) (v2 : Int32) (v3 : Int32) (v4 : Int32) (h : gx_H), gx_G E RX11 cX11_isOf 6 (some .int) false (d + 3) 0 0 14 [some (.ref v0), some (.int v1), some (.int v2), some (.int v3), some (.int v4), none] [] h (fun x : Int32 => some (.int x)) (k14 v0 v1 v2 v3 v4 h))  : ∀ (v0 : Nat) (v1 : Int32) (v2 : Int32) (v3 : Int32) (v4 : Int32) (h : gx_H), gx_G E RX11 cX11_isOf 6 (some .int) false (d + 3) 0 0 90 [some (.ref v0), some (.int v1), some (.int v2), some (.int v3), some (.int v4), none] [] h (fun x : Int32 => some (.int x)) (fX11_isOf_90 k5 k14 v0 v1 v2 v3 v4 h) := by
  intro v0 v1 v2 v3 v4 h
  unfold fX11_isOf_90
  refine gx_iinc (1 : Int32) [some (.ref v0), some (.int v1), some (.int v2), some (.int v3), some (.int (v4 + (1 : Int32))), none] dX11_isOf_90 rfl (by decide) (by decide) rfl ?_
  refine gx_goto 14 dX11_isOf_93 (by decide) ?_
  exact gx_sub (hk14 v0 v1 v2 v3 (v4 + (1 : Int32)) h) (And.intro rfl (And.intro rfl (And.intro rfl (And.intro rfl (And.intro rfl True.intro)))))
set_option maxRecDepth 100000 in
set_option maxHeartbeats 4000000 in
theorem gbX11_isOf_14 {E : gx_Env} {d : Nat} (k5 : Nat → Int32 → Int32 → Int32 → gx_H → Option (Int32 × gx_H)) (hk5 : ∀ (v0 : Nat) (v1 : Int32) (v2 : Int32) (v3 : Int32) (h : gx_H), gx_G E RX11 cX11_isOf 6 (some .int) false (d + 3) 0 0 5 [some (.ref v0), some (.int v1), some (.int v2), some (.int v3), none, none] [] h (fun x : Int32 => some (.int x)) (k5 v0 v1 v2 v3 h))  (k14 : Nat → Int32 → Int32 → Int32 → Int32 → gx_H → Option (Int32 × gx_H)) (hk14 : ∀ (v0 : Nat) (v1 : Int32) (v2 : Int32) (v3 : Int32) (v4 : Int32) (h : gx_H), gx_G E RX11 cX11_isOf 6 (some .int) false (d + 3) 0 0 14 [some (.ref v0), some (.int v1), some (.int v2), some (.int v3), some (.int v4), none] [] h (fun x : Int32 => some (.int x)) (k14 v0 v1 v2 v3 v4 h))  : ∀ (v0 : Nat) (v1 : Int32) (v2 : Int32) (v3 : Int32) (v4 : Int32) (h : gx_H), gx_G E RX11 cX11_isOf 6 (some .int) false (d + 3) 0 0 14 [some (.ref v0), some (.int v1), some (.int v2), some (.int v3), some (.int v4), none] [] h (fun x : Int32 => some (.int x)) (bX11_isOf_14 k5 k14 v0 v1 v2 v3 v4 h) := by
  intro v0 v1 v2 v3 v4 h
  unfold bX11_isOf_14
  refine gx_iload dX11_isOf_14 rfl ?_
  refine gx_aload_n 0 dX11_isOf_16 rfl rfl ?_
  refine gx_getR kf_RX11_7 dX11_isOf_17 (fun a1 => ?_)
  refine gx_bipush (40 : Int32) dX11_isOf_20 (by decide) ?_
  refine gx_iald dX11_isOf_22 (fun x2 => ?_)
  refine gx_icmp_ge 96 dX11_isOf_23 (by decide) (fun _ => ?_) (fun _ => ?_)
  · refine gx_iinc (1 : Int32) [some (.ref v0), some (.int v1), some (.int v2), some (.int (v3 + (1 : Int32))), some (.int v4), none] dX11_isOf_96 rfl (by decide) (by decide) rfl ?_
    refine gx_goto 5 dX11_isOf_99 (by decide) ?_
    exact gx_sub (hk5 v0 v1 v2 (v3 + (1 : Int32)) h) (And.intro rfl (And.intro rfl (And.intro rfl (And.intro rfl True.intro))))
  · refine gx_bipush (41 : Int32) dX11_isOf_26 (by decide) ?_
    refine gx_iconst (4 : Int32) dX11_isOf_28 (by decide) ?_
    refine gx_iload dX11_isOf_29 rfl ?_
    refine gx_imul dX11_isOf_31 ?_
    refine gx_iadd dX11_isOf_32 ?_
    refine gx_istore [some (.ref v0), some (.int v1), some (.int v2), some (.int v3), some (.int v4), some (.int ((41 : Int32) + ((4 : Int32) * v4)))] dX11_isOf_33 (by decide) rfl ?_
    refine gx_aload_n 0 dX11_isOf_35 rfl rfl ?_
    refine gx_getR kf_RX11_7 dX11_isOf_36 (fun a3 => ?_)
    refine gx_iload dX11_isOf_39 rfl ?_
    refine gx_iald dX11_isOf_41 (fun x4 => ?_)
    refine gx_iload_n 1 dX11_isOf_42 rfl rfl ?_
    refine gx_icmp_ne 90 dX11_isOf_43 (by decide) (fun _ => ?_) (fun _ => ?_)
    · exact gx_sub (gX11_isOf_90 k5 hk5 k14 hk14 v0 v1 v2 v3 v4 h) (And.intro rfl (And.intro rfl (And.intro rfl (And.intro rfl (And.intro rfl True.intro)))))
    · refine gx_aload_n 0 dX11_isOf_46 rfl rfl ?_
      refine gx_iload_n 3 dX11_isOf_47 rfl rfl ?_
      refine gx_iload_n 1 dX11_isOf_48 rfl rfl ?_
      refine gx_aload_n 0 dX11_isOf_49 rfl rfl ?_
      refine gx_getR kf_RX11_7 dX11_isOf_50 (fun a5 => ?_)
      refine gx_iload dX11_isOf_53 rfl ?_
      refine gx_iconst (1 : Int32) dX11_isOf_55 (by decide) ?_
      refine gx_iadd dX11_isOf_56 ?_
      refine gx_iald dX11_isOf_57 (fun x6 => ?_)
      refine gx_aload_n 0 dX11_isOf_58 rfl rfl ?_
      refine gx_getR kf_RX11_7 dX11_isOf_59 (fun a7 => ?_)
      refine gx_iload dX11_isOf_62 rfl ?_
      refine gx_iconst (2 : Int32) dX11_isOf_64 (by decide) ?_
      refine gx_iadd dX11_isOf_65 ?_
      refine gx_iald dX11_isOf_66 (fun x8 => ?_)
      refine gx_callV (ci := 9) (bc := 0) (bs := 0) (mc := 0) (ms := 0) (em' := (fun x : Int32 => some (.int x))) [.int v3, .int v1, .int x6, .int x8] kc_RX11_226 rfl dX11_isOf_67 rfl rfl (gx_w8 rfl) (fun x q => (gx_isO_of (by unfold fX11_leads at q; exact q)).2) (fun _ _ q => okX11_leads d q) (fun x10 h9 => ?_)
      refine gx_aload_n 0 dX11_isOf_70 rfl rfl ?_
      refine gx_getR kf_RX11_7 dX11_isOf_71 (fun a11 => ?_)
      refine gx_iload dX11_isOf_74 rfl ?_
      refine gx_iconst (3 : Int32) dX11_isOf_76 (by decide) ?_
      refine gx_iadd dX11_isOf_77 ?_
      refine gx_iald dX11_isOf_78 (fun x12 => ?_)
      refine gx_icmp_eq 90 dX11_isOf_79 (by decide) (fun _ => ?_) (fun _ => ?_)
      · exact gx_sub (gX11_isOf_90 k5 hk5 k14 hk14 v0 v1 v2 v3 v4 h9) (And.intro rfl (And.intro rfl (And.intro rfl (And.intro rfl (And.intro rfl True.intro)))))
      · refine gx_iload_n 2 dX11_isOf_82 rfl rfl ?_
        refine gx_iconst (1 : Int32) dX11_isOf_83 (by decide) ?_
        refine gx_iload_n 3 dX11_isOf_84 rfl rfl ?_
        refine gx_ishl dX11_isOf_85 ?_
        refine gx_iconst (-1 : Int32) dX11_isOf_86 (by decide) ?_
        refine gx_ixor dX11_isOf_87 ?_
        refine gx_iand dX11_isOf_88 ?_
        refine gx_istore_n 2 [some (.ref v0), some (.int v1), some (.int (v2 &&& (((1 : Int32) <<< (v3 &&& 31)) ^^^ (-1 : Int32)))), some (.int v3), some (.int v4), some (.int ((41 : Int32) + ((4 : Int32) * v4)))] dX11_isOf_89 rfl (by decide) rfl ?_
        exact gx_sub (gX11_isOf_90 k5 hk5 k14 hk14 v0 v1 (v2 &&& (((1 : Int32) <<< (v3 &&& 31)) ^^^ (-1 : Int32))) v3 v4 h9) (And.intro rfl (And.intro rfl (And.intro rfl (And.intro rfl (And.intro rfl True.intro)))))
set_option maxRecDepth 100000 in
set_option maxHeartbeats 4000000 in
theorem gX11_isOf_14 {E : gx_Env} {d : Nat} (k5 : Nat → Int32 → Int32 → Int32 → gx_H → Option (Int32 × gx_H)) (hk5 : ∀ (v0 : Nat) (v1 : Int32) (v2 : Int32) (v3 : Int32) (h : gx_H), gx_G E RX11 cX11_isOf 6 (some .int) false (d + 3) 0 0 5 [some (.ref v0), some (.int v1), some (.int v2), some (.int v3), none, none] [] h (fun x : Int32 => some (.int x)) (k5 v0 v1 v2 v3 h))  : ∀ (n : Nat) (v0 : Nat) (v1 : Int32) (v2 : Int32) (v3 : Int32) (v4 : Int32) (h : gx_H), gx_G E RX11 cX11_isOf 6 (some .int) false (d + 3) 0 0 14 [some (.ref v0), some (.int v1), some (.int v2), some (.int v3), some (.int v4), none] [] h (fun x : Int32 => some (.int x)) (fX11_isOf_14 k5 n v0 v1 v2 v3 v4 h) := by
  intro n
  induction n with
  | zero => intro v0 v1 v2 v3 v4 h; exact gx_none
  | succ n ih => exact gbX11_isOf_14 k5 hk5 (fX11_isOf_14 k5 n) ih
set_option maxRecDepth 100000 in
set_option maxHeartbeats 4000000 in
theorem gbX11_isOf_5 {E : gx_Env} {d : Nat}  (k5 : Nat → Int32 → Int32 → Int32 → gx_H → Option (Int32 × gx_H)) (hk5 : ∀ (v0 : Nat) (v1 : Int32) (v2 : Int32) (v3 : Int32) (h : gx_H), gx_G E RX11 cX11_isOf 6 (some .int) false (d + 3) 0 0 5 [some (.ref v0), some (.int v1), some (.int v2), some (.int v3), none, none] [] h (fun x : Int32 => some (.int x)) (k5 v0 v1 v2 v3 h))  : ∀ (v0 : Nat) (v1 : Int32) (v2 : Int32) (v3 : Int32) (h : gx_H), gx_G E RX11 cX11_isOf 6 (some .int) false (d + 3) 0 0 5 [some (.ref v0), some (.int v1), some (.int v2), some (.int v3), none, none] [] h (fun x : Int32 => some (.int x)) (bX11_isOf_5 k5 v0 v1 v2 v3 h) := by
  intro v0 v1 v2 v3 h
  unfold bX11_isOf_5
  refine gx_iload_n 3 dX11_isOf_5 rfl rfl ?_
  refine gx_bipush (6 : Int32) dX11_isOf_6 (by decide) ?_
  refine gx_icmp_ge 102 dX11_isOf_8 (by decide) (fun _ => ?_) (fun _ => ?_)
  · refine gx_iload_n 2 dX11_isOf_102 rfl rfl ?_
    exact gx_iret dX11_isOf_103 rfl
  · refine gx_iconst (0 : Int32) dX11_isOf_11 (by decide) ?_
    refine gx_istore [some (.ref v0), some (.int v1), some (.int v2), some (.int v3), some (.int (0 : Int32)), none] dX11_isOf_12 (by decide) rfl ?_
    exact gx_sub (gX11_isOf_14 k5 hk5 gx_N v0 v1 v2 v3 (0 : Int32) h) (And.intro rfl (And.intro rfl (And.intro rfl (And.intro rfl (And.intro rfl True.intro)))))
set_option maxRecDepth 100000 in
set_option maxHeartbeats 4000000 in
theorem gX11_isOf_5 {E : gx_Env} {d : Nat}  : ∀ (n : Nat) (v0 : Nat) (v1 : Int32) (v2 : Int32) (v3 : Int32) (h : gx_H), gx_G E RX11 cX11_isOf 6 (some .int) false (d + 3) 0 0 5 [some (.ref v0), some (.int v1), some (.int v2), some (.int v3), none, none] [] h (fun x : Int32 => some (.int x)) (fX11_isOf_5 n v0 v1 v2 v3 h) := by
  intro n
  induction n with
  | zero => intro v0 v1 v2 v3 h; exact gx_none
  | succ n ih => exact gbX11_isOf_5  (fX11_isOf_5  n) ih
set_option maxRecDepth 100000 in
set_option maxHeartbeats 4000000 in
theorem geX11_isOf {E : gx_Env} {d : Nat} (v0 : Nat) (v1 : Int32) (h : gx_H) : gx_G E RX11 cX11_isOf 6 (some .int) false (d + 3) 0 0 0 [some (.ref v0), some (.int v1), none, none, none, none] [] h (fun x : Int32 => some (.int x)) (fX11_isOf v0 v1 h) := by
  unfold fX11_isOf
  refine gx_bind fun _ _ => ?_
  refine gx_bipush (63 : Int32) dX11_isOf_0 (by decide) ?_
  refine gx_istore_n 2 [some (.ref v0), some (.int v1), some (.int (63 : Int32)), none, none, none] dX11_isOf_2 rfl (by decide) rfl ?_
  refine gx_iconst (0 : Int32) dX11_isOf_3 (by decide) ?_
  refine gx_istore_n 3 [some (.ref v0), some (.int v1), some (.int (63 : Int32)), some (.int (0 : Int32)), none, none] dX11_isOf_4 rfl (by decide) rfl ?_
  exact gx_sub (gX11_isOf_5 gx_N v0 v1 (63 : Int32) (0 : Int32) h) (And.intro rfl (And.intro rfl (And.intro rfl (And.intro rfl True.intro))))
theorem okX11_isOf {E : gx_Env} (d : Nat) {v0 : Nat} {v1 : Int32} {h : gx_H} {r : Int32} {h1 : gx_H} (q : fX11_isOf v0 v1 h = some (r, h1)) : gx_M E yX11_isOf cX11_isOf 6 (some .int) (d + 3) 0 0 [.ref v0, .int v1] h ((fun x : Int32 => some (.int x)) r) h1 := gx_meth (y := yX11_isOf) (cc := cX11_isOf) (nL := 6) (em := (fun x : Int32 => some (.int x))) (ini := false) [.ref v0, .int v1] (by decide) (by simp [gx_sl]) (fun q => by cases q) (geX11_isOf v0 v1 h) q
theorem dX11_is_0 : decode cX11_is 0 = .ok (.aload_n 0, 1) := by decide +kernel
theorem dX11_is_1 : decode cX11_is 1 = .ok (.iload_n 1, 1) := by decide +kernel
theorem dX11_is_2 : decode cX11_is 2 = .ok (.invokevirtual 197, 3) := by decide +kernel
theorem dX11_is_5 : decode cX11_is 5 = .ok (.ifCond .eq 11, 3) := by decide +kernel
theorem dX11_is_8 : decode cX11_is 8 = .ok (.aload_n 0, 1) := by decide +kernel
theorem dX11_is_9 : decode cX11_is 9 = .ok (.iload_n 1, 1) := by decide +kernel
theorem dX11_is_10 : decode cX11_is 10 = .ok (.invokevirtual 229, 3) := by decide +kernel
theorem dX11_is_13 : decode cX11_is 13 = .ok (.goto 9, 3) := by decide +kernel
theorem dX11_is_16 : decode cX11_is 16 = .ok (.aload_n 0, 1) := by decide +kernel
theorem dX11_is_17 : decode cX11_is 17 = .ok (.bipush (-2), 2) := by decide +kernel
theorem dX11_is_19 : decode cX11_is 19 = .ok (.invokevirtual 81, 3) := by decide +kernel
theorem dX11_is_22 : decode cX11_is 22 = .ok (.ireturn, 1) := by decide +kernel
def fX11_is_22 (s0 : Int32) (h : gx_H) : Option (Int32 × gx_H) :=
  some (s0, h)
def fX11_is (v0 : Nat) (v1 : Int32) (h : gx_H) : Option (Int32 × gx_H) :=
  (gx_isO h v0 9).bind fun _ =>
  gx_bd (fX11_isLink v0 v1 h) fun x2 h1 =>
  if x2 = 0 then
    gx_bd (fX11_bad v0 (-2 : Int32) h1) fun x4 h3 =>
    fX11_is_22 x4 h3
  else
    gx_bd (fX11_isOf v0 v1 h1) fun x6 h5 =>
    fX11_is_22 x6 h5
set_option maxRecDepth 100000 in
set_option maxHeartbeats 4000000 in
theorem gX11_is_22 {E : gx_Env} {d : Nat}  : ∀ (s0 : Int32) (h : gx_H), gx_G E RX11 cX11_is 2 (some .int) false (d + 4) 0 0 22 [none, none] [.int s0] h (fun x : Int32 => some (.int x)) (fX11_is_22 s0 h) := by
  intro s0 h
  unfold fX11_is_22
  exact gx_iret dX11_is_22 rfl
set_option maxRecDepth 100000 in
set_option maxHeartbeats 4000000 in
theorem geX11_is {E : gx_Env} {d : Nat} (v0 : Nat) (v1 : Int32) (h : gx_H) : gx_G E RX11 cX11_is 2 (some .int) false (d + 4) 0 0 0 [some (.ref v0), some (.int v1)] [] h (fun x : Int32 => some (.int x)) (fX11_is v0 v1 h) := by
  unfold fX11_is
  refine gx_bind fun _ _ => ?_
  refine gx_aload_n 0 dX11_is_0 rfl rfl ?_
  refine gx_iload_n 1 dX11_is_1 rfl rfl ?_
  refine gx_callV (ci := 9) (bc := 0) (bs := 0) (mc := 0) (ms := 0) (em' := (fun x : Int32 => some (.int x))) [.int v1] kc_RX11_197 rfl dX11_is_2 rfl rfl (gx_w8 rfl) (fun x q => (gx_isO_of (by unfold fX11_isLink at q; exact q)).2) (fun _ _ q => okX11_isLink (d + 2) q) (fun x2 h1 => ?_)
  refine gx_if_eq 16 dX11_is_5 (by decide) (fun _ => ?_) (fun _ => ?_)
  · refine gx_aload_n 0 dX11_is_16 rfl rfl ?_
    refine gx_bipush (-2 : Int32) dX11_is_17 (by decide) ?_
    refine gx_callV (ci := 9) (bc := 0) (bs := 0) (mc := 0) (ms := 0) (em' := (fun x : Int32 => some (.int x))) [.int (-2 : Int32)] kc_RX11_81 rfl dX11_is_19 rfl rfl (gx_w8 rfl) (fun x q => (gx_isO_of (by unfold fX11_bad at q; exact q)).2) (fun _ _ q => okX11_bad (d + 3) q) (fun x4 h3 => ?_)
    exact gx_sub (gX11_is_22 x4 h3) True.intro
  · refine gx_aload_n 0 dX11_is_8 rfl rfl ?_
    refine gx_iload_n 1 dX11_is_9 rfl rfl ?_
    refine gx_callV (ci := 9) (bc := 0) (bs := 0) (mc := 0) (ms := 0) (em' := (fun x : Int32 => some (.int x))) [.int v1] kc_RX11_229 rfl dX11_is_10 rfl rfl (gx_w8 rfl) (fun x q => (gx_isO_of (by unfold fX11_isOf at q; exact q)).2) (fun _ _ q => okX11_isOf d q) (fun x6 h5 => ?_)
    refine gx_goto 22 dX11_is_13 (by decide) ?_
    exact gx_sub (gX11_is_22 x6 h5) True.intro
theorem okX11_is {E : gx_Env} (d : Nat) {v0 : Nat} {v1 : Int32} {h : gx_H} {r : Int32} {h1 : gx_H} (q : fX11_is v0 v1 h = some (r, h1)) : gx_M E yX11_is cX11_is 2 (some .int) (d + 4) 0 0 [.ref v0, .int v1] h ((fun x : Int32 => some (.int x)) r) h1 := gx_meth (y := yX11_is) (cc := cX11_is) (nL := 2) (em := (fun x : Int32 => some (.int x))) (ini := false) [.ref v0, .int v1] (by decide) (by simp [gx_sl]) (fun q => by cases q) (geX11_is v0 v1 h) q
theorem dX11_look_0 : decode cX11_look 0 = .ok (.aload_n 0, 1) := by decide +kernel
theorem dX11_look_1 : decode cX11_look 1 = .ok (.iload_n 1, 1) := by decide +kernel
theorem dX11_look_2 : decode cX11_look 2 = .ok (.invokevirtual 197, 3) := by decide +kernel
theorem dX11_look_5 : decode cX11_look 5 = .ok (.ifCond .ne 10, 3) := by decide +kernel
theorem dX11_look_8 : decode cX11_look 8 = .ok (.aload_n 0, 1) := by decide +kernel
theorem dX11_look_9 : decode cX11_look 9 = .ok (.bipush (-2), 2) := by decide +kernel
theorem dX11_look_11 : decode cX11_look 11 = .ok (.invokevirtual 81, 3) := by decide +kernel
theorem dX11_look_14 : decode cX11_look 14 = .ok (.ireturn, 1) := by decide +kernel
theorem dX11_look_15 : decode cX11_look 15 = .ok (.aload_n 0, 1) := by decide +kernel
theorem dX11_look_16 : decode cX11_look 16 = .ok (.iload_n 1, 1) := by decide +kernel
theorem dX11_look_17 : decode cX11_look 17 = .ok (.invokevirtual 229, 3) := by decide +kernel
theorem dX11_look_20 : decode cX11_look 20 = .ok (.istore_n 2, 1) := by decide +kernel
theorem dX11_look_21 : decode cX11_look 21 = .ok (.iconst (-1), 1) := by decide +kernel
theorem dX11_look_22 : decode cX11_look 22 = .ok (.istore_n 3, 1) := by decide +kernel
theorem dX11_look_23 : decode cX11_look 23 = .ok (.ldc 232, 2) := by decide +kernel
theorem dX11_look_25 : decode cX11_look 25 = .ok (.istore 4, 2) := by decide +kernel
theorem dX11_look_27 : decode cX11_look 27 = .ok (.iconst 0, 1) := by decide +kernel
theorem dX11_look_28 : decode cX11_look 28 = .ok (.istore 5, 2) := by decide +kernel
theorem dX11_look_30 : decode cX11_look 30 = .ok (.iload 5, 2) := by decide +kernel
theorem dX11_look_32 : decode cX11_look 32 = .ok (.iconst 3, 1) := by decide +kernel
theorem dX11_look_33 : decode cX11_look 33 = .ok (.if_icmp .gt 168, 3) := by decide +kernel
theorem dX11_look_36 : decode cX11_look 36 = .ok (.iconst 1, 1) := by decide +kernel
theorem dX11_look_37 : decode cX11_look 37 = .ok (.istore 6, 2) := by decide +kernel
theorem dX11_look_39 : decode cX11_look 39 = .ok (.iload 6, 2) := by decide +kernel
theorem dX11_look_41 : decode cX11_look 41 = .ok (.bipush 6, 2) := by decide +kernel
theorem dX11_look_43 : decode cX11_look 43 = .ok (.if_icmp .gt 152, 3) := by decide +kernel
theorem dX11_look_46 : decode cX11_look 46 = .ok (.iconst 0, 1) := by decide +kernel
theorem dX11_look_47 : decode cX11_look 47 = .ok (.istore 7, 2) := by decide +kernel
theorem dX11_look_49 : decode cX11_look 49 = .ok (.iconst 0, 1) := by decide +kernel
theorem dX11_look_50 : decode cX11_look 50 = .ok (.istore 8, 2) := by decide +kernel
theorem dX11_look_52 : decode cX11_look 52 = .ok (.iload 8, 2) := by decide +kernel
theorem dX11_look_54 : decode cX11_look 54 = .ok (.bipush 6, 2) := by decide +kernel
theorem dX11_look_56 : decode cX11_look 56 = .ok (.if_icmp .ge 97, 3) := by decide +kernel
theorem dX11_look_59 : decode cX11_look 59 = .ok (.iconst 0, 1) := by decide +kernel
theorem dX11_look_60 : decode cX11_look 60 = .ok (.istore 9, 2) := by decide +kernel
theorem dX11_look_62 : decode cX11_look 62 = .ok (.iconst 0, 1) := by decide +kernel
theorem dX11_look_63 : decode cX11_look 63 = .ok (.istore 10, 2) := by decide +kernel
theorem dX11_look_65 : decode cX11_look 65 = .ok (.iload 10, 2) := by decide +kernel
theorem dX11_look_67 : decode cX11_look 67 = .ok (.bipush 6, 2) := by decide +kernel
theorem dX11_look_69 : decode cX11_look 69 = .ok (.if_icmp .ge 62, 3) := by decide +kernel
theorem dX11_look_72 : decode cX11_look 72 = .ok (.iload 9, 2) := by decide +kernel
theorem dX11_look_74 : decode cX11_look 74 = .ok (.iload_n 2, 1) := by decide +kernel
theorem dX11_look_75 : decode cX11_look 75 = .ok (.iload 8, 2) := by decide +kernel
theorem dX11_look_77 : decode cX11_look 77 = .ok (.invokestatic 233, 3) := by decide +kernel
theorem dX11_look_80 : decode cX11_look 80 = .ok (.ifCond .eq 41, 3) := by decide +kernel
theorem dX11_look_83 : decode cX11_look 83 = .ok (.iload_n 2, 1) := by decide +kernel
theorem dX11_look_84 : decode cX11_look 84 = .ok (.iload 10, 2) := by decide +kernel
theorem dX11_look_86 : decode cX11_look 86 = .ok (.invokestatic 233, 3) := by decide +kernel
theorem dX11_look_89 : decode cX11_look 89 = .ok (.ifCond .eq 32, 3) := by decide +kernel
theorem dX11_look_92 : decode cX11_look 92 = .ok (.aload_n 0, 1) := by decide +kernel
theorem dX11_look_93 : decode cX11_look 93 = .ok (.iload 8, 2) := by decide +kernel
theorem dX11_look_95 : decode cX11_look 95 = .ok (.iload_n 1, 1) := by decide +kernel
theorem dX11_look_96 : decode cX11_look 96 = .ok (.iload 5, 2) := by decide +kernel
theorem dX11_look_98 : decode cX11_look 98 = .ok (.iload 6, 2) := by decide +kernel
theorem dX11_look_100 : decode cX11_look 100 = .ok (.invokevirtual 226, 3) := by decide +kernel
theorem dX11_look_103 : decode cX11_look 103 = .ok (.aload_n 0, 1) := by decide +kernel
theorem dX11_look_104 : decode cX11_look 104 = .ok (.iload 10, 2) := by decide +kernel
theorem dX11_look_106 : decode cX11_look 106 = .ok (.iload_n 1, 1) := by decide +kernel
theorem dX11_look_107 : decode cX11_look 107 = .ok (.iload 5, 2) := by decide +kernel
theorem dX11_look_109 : decode cX11_look 109 = .ok (.iload 6, 2) := by decide +kernel
theorem dX11_look_111 : decode cX11_look 111 = .ok (.invokevirtual 226, 3) := by decide +kernel
theorem dX11_look_114 : decode cX11_look 114 = .ok (.if_icmp .ne 7, 3) := by decide +kernel
theorem dX11_look_117 : decode cX11_look 117 = .ok (.iconst 1, 1) := by decide +kernel
theorem dX11_look_118 : decode cX11_look 118 = .ok (.goto 4, 3) := by decide +kernel
theorem dX11_look_121 : decode cX11_look 121 = .ok (.iconst 0, 1) := by decide +kernel
theorem dX11_look_122 : decode cX11_look 122 = .ok (.iadd, 1) := by decide +kernel
theorem dX11_look_123 : decode cX11_look 123 = .ok (.istore 9, 2) := by decide +kernel
theorem dX11_look_125 : decode cX11_look 125 = .ok (.iinc 10 1, 3) := by decide +kernel
theorem dX11_look_128 : decode cX11_look 128 = .ok (.goto (-63), 3) := by decide +kernel
theorem dX11_look_131 : decode cX11_look 131 = .ok (.iload 9, 2) := by decide +kernel
theorem dX11_look_133 : decode cX11_look 133 = .ok (.iload 7, 2) := by decide +kernel
theorem dX11_look_135 : decode cX11_look 135 = .ok (.if_icmp .le 8, 3) := by decide +kernel
theorem dX11_look_138 : decode cX11_look 138 = .ok (.iload 9, 2) := by decide +kernel
theorem dX11_look_140 : decode cX11_look 140 = .ok (.goto 5, 3) := by decide +kernel
theorem dX11_look_143 : decode cX11_look 143 = .ok (.iload 7, 2) := by decide +kernel
theorem dX11_look_145 : decode cX11_look 145 = .ok (.istore 7, 2) := by decide +kernel
theorem dX11_look_147 : decode cX11_look 147 = .ok (.iinc 8 1, 3) := by decide +kernel
theorem dX11_look_150 : decode cX11_look 150 = .ok (.goto (-98), 3) := by decide +kernel
theorem dX11_look_153 : decode cX11_look 153 = .ok (.iload 7, 2) := by decide +kernel
theorem dX11_look_155 : decode cX11_look 155 = .ok (.iload 4, 2) := by decide +kernel
theorem dX11_look_157 : decode cX11_look 157 = .ok (.if_icmp .ge 14, 3) := by decide +kernel
theorem dX11_look_160 : decode cX11_look 160 = .ok (.bipush 10, 2) := by decide +kernel
theorem dX11_look_162 : decode cX11_look 162 = .ok (.iload 5, 2) := by decide +kernel
theorem dX11_look_164 : decode cX11_look 164 = .ok (.imul, 1) := by decide +kernel
theorem dX11_look_165 : decode cX11_look 165 = .ok (.iload 6, 2) := by decide +kernel
theorem dX11_look_167 : decode cX11_look 167 = .ok (.iadd, 1) := by decide +kernel
theorem dX11_look_168 : decode cX11_look 168 = .ok (.goto 4, 3) := by decide +kernel
theorem dX11_look_171 : decode cX11_look 171 = .ok (.iload_n 3, 1) := by decide +kernel
theorem dX11_look_172 : decode cX11_look 172 = .ok (.istore_n 3, 1) := by decide +kernel
theorem dX11_look_173 : decode cX11_look 173 = .ok (.iload 7, 2) := by decide +kernel
theorem dX11_look_175 : decode cX11_look 175 = .ok (.iload 4, 2) := by decide +kernel
theorem dX11_look_177 : decode cX11_look 177 = .ok (.if_icmp .ge 8, 3) := by decide +kernel
theorem dX11_look_180 : decode cX11_look 180 = .ok (.iload 7, 2) := by decide +kernel
theorem dX11_look_182 : decode cX11_look 182 = .ok (.goto 5, 3) := by decide +kernel
theorem dX11_look_185 : decode cX11_look 185 = .ok (.iload 4, 2) := by decide +kernel
theorem dX11_look_187 : decode cX11_look 187 = .ok (.istore 4, 2) := by decide +kernel
theorem dX11_look_189 : decode cX11_look 189 = .ok (.iinc 6 1, 3) := by decide +kernel
theorem dX11_look_192 : decode cX11_look 192 = .ok (.goto (-153), 3) := by decide +kernel
theorem dX11_look_195 : decode cX11_look 195 = .ok (.iinc 5 1, 3) := by decide +kernel
theorem dX11_look_198 : decode cX11_look 198 = .ok (.goto (-168), 3) := by decide +kernel
theorem dX11_look_201 : decode cX11_look 201 = .ok (.iload_n 2, 1) := by decide +kernel
theorem dX11_look_202 : decode cX11_look 202 = .ok (.ifCond .ne 7, 3) := by decide +kernel
theorem dX11_look_205 : decode cX11_look 205 = .ok (.iconst (-1), 1) := by decide +kernel
theorem dX11_look_206 : decode cX11_look 206 = .ok (.goto 4, 3) := by decide +kernel
theorem dX11_look_209 : decode cX11_look 209 = .ok (.iload_n 3, 1) := by decide +kernel
theorem dX11_look_210 : decode cX11_look 210 = .ok (.ireturn, 1) := by decide +kernel
def fX11_look_122 (k30 : Nat → Int32 → Int32 → Int32 → Int32 → Int32 → gx_H → Option (Int32 × gx_H)) (k39 : Nat → Int32 → Int32 → Int32 → Int32 → Int32 → Int32 → gx_H → Option (Int32 × gx_H)) (k52 : Nat → Int32 → Int32 → Int32 → Int32 → Int32 → Int32 → Int32 → Int32 → gx_H → Option (Int32 × gx_H)) (k65 : Nat → Int32 → Int32 → Int32 → Int32 → Int32 → Int32 → Int32 → Int32 → Int32 → Int32 → gx_H → Option (Int32 × gx_H)) (v0 : Nat) (v1 : Int32) (v2 : Int32) (v3 : Int32) (v4 : Int32) (v5 : Int32) (v6 : Int32) (v7 : Int32) (v8 : Int32) (v10 : Int32) (s0 : Int32) (s1 : Int32) (h : gx_H) : Option (Int32 × gx_H) :=
  k65 v0 v1 v2 v3 v4 v5 v6 v7 v8 (s0 + s1) (v10 + (1 : Int32)) h
def fX11_look_121 (k30 : Nat → Int32 → Int32 → Int32 → Int32 → Int32 → gx_H → Option (Int32 × gx_H)) (k39 : Nat → Int32 → Int32 → Int32 → Int32 → Int32 → Int32 → gx_H → Option (Int32 × gx_H)) (k52 : Nat → Int32 → Int32 → Int32 → Int32 → Int32 → Int32 → Int32 → Int32 → gx_H → Option (Int32 × gx_H)) (k65 : Nat → Int32 → Int32 → Int32 → Int32 → Int32 → Int32 → Int32 → Int32 → Int32 → Int32 → gx_H → Option (Int32 × gx_H)) (v0 : Nat) (v1 : Int32) (v2 : Int32) (v3 : Int32) (v4 : Int32) (v5 : Int32) (v6 : Int32) (v7 : Int32) (v8 : Int32) (v10 : Int32) (s0 : Int32) (h : gx_H) : Option (Int32 × gx_H) :=
  fX11_look_122 k30 k39 k52 k65 v0 v1 v2 v3 v4 v5 v6 v7 v8 v10 s0 (0 : Int32) h
def fX11_look_145 (k30 : Nat → Int32 → Int32 → Int32 → Int32 → Int32 → gx_H → Option (Int32 × gx_H)) (k39 : Nat → Int32 → Int32 → Int32 → Int32 → Int32 → Int32 → gx_H → Option (Int32 × gx_H)) (k52 : Nat → Int32 → Int32 → Int32 → Int32 → Int32 → Int32 → Int32 → Int32 → gx_H → Option (Int32 × gx_H)) (v0 : Nat) (v1 : Int32) (v2 : Int32) (v3 : Int32) (v4 : Int32) (v5 : Int32) (v6 : Int32) (v8 : Int32) (s0 : Int32) (h : gx_H) : Option (Int32 × gx_H) :=
  k52 v0 v1 v2 v3 v4 v5 v6 s0 (v8 + (1 : Int32)) h
def bX11_look_65 (k30 : Nat → Int32 → Int32 → Int32 → Int32 → Int32 → gx_H → Option (Int32 × gx_H)) (k39 : Nat → Int32 → Int32 → Int32 → Int32 → Int32 → Int32 → gx_H → Option (Int32 × gx_H)) (k52 : Nat → Int32 → Int32 → Int32 → Int32 → Int32 → Int32 → Int32 → Int32 → gx_H → Option (Int32 × gx_H)) (k65 : Nat → Int32 → Int32 → Int32 → Int32 → Int32 → Int32 → Int32 → Int32 → Int32 → Int32 → gx_H → Option (Int32 × gx_H)) (v0 : Nat) (v1 : Int32) (v2 : Int32) (v3 : Int32) (v4 : Int32) (v5 : Int32) (v6 : Int32) (v7 : Int32) (v8 : Int32) (v9 : Int32) (v10 : Int32) (h : gx_H) : Option (Int32 × gx_H) :=
  if (6 : Int32) ≤ v10 then
    if v9 ≤ v7 then
      fX11_look_145 k30 k39 k52 v0 v1 v2 v3 v4 v5 v6 v8 v7 h
    else
      fX11_look_145 k30 k39 k52 v0 v1 v2 v3 v4 v5 v6 v8 v9 h
  else
    gx_bd (fX11_has v2 v8 h) fun x8 h7 =>
    if x8 = 0 then
      fX11_look_121 k30 k39 k52 k65 v0 v1 v2 v3 v4 v5 v6 v7 v8 v10 v9 h7
    else
      gx_bd (fX11_has v2 v10 h7) fun x10 h9 =>
      if x10 = 0 then
        fX11_look_121 k30 k39 k52 k65 v0 v1 v2 v3 v4 v5 v6 v7 v8 v10 v9 h9
      else
        gx_bd (fX11_leads v0 v8 v1 v5 v6 h9) fun x12 h11 =>
        gx_bd (fX11_leads v0 v10 v1 v5 v6 h11) fun x14 h13 =>
        if x12 = x14 then
          fX11_look_122 k30 k39 k52 k65 v0 v1 v2 v3 v4 v5 v6 v7 v8 v10 v9 (1 : Int32) h13
        else
          fX11_look_121 k30 k39 k52 k65 v0 v1 v2 v3 v4 v5 v6 v7 v8 v10 v9 h13
def fX11_look_65 (k30 : Nat → Int32 → Int32 → Int32 → Int32 → Int32 → gx_H → Option (Int32 × gx_H)) (k39 : Nat → Int32 → Int32 → Int32 → Int32 → Int32 → Int32 → gx_H → Option (Int32 × gx_H)) (k52 : Nat → Int32 → Int32 → Int32 → Int32 → Int32 → Int32 → Int32 → Int32 → gx_H → Option (Int32 × gx_H)) : Nat → Nat → Int32 → Int32 → Int32 → Int32 → Int32 → Int32 → Int32 → Int32 → Int32 → Int32 → gx_H → Option (Int32 × gx_H)
  | 0 => fun _ _ _ _ _ _ _ _ _ _ _ _ => none
  | n + 1 => bX11_look_65 k30 k39 k52 (fX11_look_65 k30 k39 k52 n)
def fX11_look_187 (k30 : Nat → Int32 → Int32 → Int32 → Int32 → Int32 → gx_H → Option (Int32 × gx_H)) (k39 : Nat → Int32 → Int32 → Int32 → Int32 → Int32 → Int32 → gx_H → Option (Int32 × gx_H)) (v0 : Nat) (v1 : Int32) (v2 : Int32) (v3 : Int32) (v5 : Int32) (v6 : Int32) (s0 : Int32) (h : gx_H) : Option (Int32 × gx_H) :=
  k39 v0 v1 v2 v3 s0 v5 (v6 + (1 : Int32)) h
def fX11_look_172 (k30 : Nat → Int32 → Int32 → Int32 → Int32 → Int32 → gx_H → Option (Int32 × gx_H)) (k39 : Nat → Int32 → Int32 → Int32 → Int32 → Int32 → Int32 → gx_H → Option (Int32 × gx_H)) (v0 : Nat) (v1 : Int32) (v2 : Int32) (v4 : Int32) (v5 : Int32) (v6 : Int32) (v7 : Int32) (s0 : Int32) (h : gx_H) : Option (Int32 × gx_H) :=
  if v4 ≤ v7 then
    fX11_look_187 k30 k39 v0 v1 v2 s0 v5 v6 v4 h
  else
    fX11_look_187 k30 k39 v0 v1 v2 s0 v5 v6 v7 h
def bX11_look_52 (k30 : Nat → Int32 → Int32 → Int32 → Int32 → Int32 → gx_H → Option (Int32 × gx_H)) (k39 : Nat → Int32 → Int32 → Int32 → Int32 → Int32 → Int32 → gx_H → Option (Int32 × gx_H)) (k52 : Nat → Int32 → Int32 → Int32 → Int32 → Int32 → Int32 → Int32 → Int32 → gx_H → Option (Int32 × gx_H)) (v0 : Nat) (v1 : Int32) (v2 : Int32) (v3 : Int32) (v4 : Int32) (v5 : Int32) (v6 : Int32) (v7 : Int32) (v8 : Int32) (h : gx_H) : Option (Int32 × gx_H) :=
  if (6 : Int32) ≤ v8 then
    if v4 ≤ v7 then
      fX11_look_172 k30 k39 v0 v1 v2 v4 v5 v6 v7 v3 h
    else
      fX11_look_172 k30 k39 v0 v1 v2 v4 v5 v6 v7 (((10 : Int32) * v5) + v6) h
  else
    fX11_look_65 k30 k39 k52 gx_N v0 v1 v2 v3 v4 v5 v6 v7 v8 (0 : Int32) (0 : Int32) h
def fX11_look_52 (k30 : Nat → Int32 → Int32 → Int32 → Int32 → Int32 → gx_H → Option (Int32 × gx_H)) (k39 : Nat → Int32 → Int32 → Int32 → Int32 → Int32 → Int32 → gx_H → Option (Int32 × gx_H)) : Nat → Nat → Int32 → Int32 → Int32 → Int32 → Int32 → Int32 → Int32 → Int32 → gx_H → Option (Int32 × gx_H)
  | 0 => fun _ _ _ _ _ _ _ _ _ _ => none
  | n + 1 => bX11_look_52 k30 k39 (fX11_look_52 k30 k39 n)
def bX11_look_39 (k30 : Nat → Int32 → Int32 → Int32 → Int32 → Int32 → gx_H → Option (Int32 × gx_H)) (k39 : Nat → Int32 → Int32 → Int32 → Int32 → Int32 → Int32 → gx_H → Option (Int32 × gx_H)) (v0 : Nat) (v1 : Int32) (v2 : Int32) (v3 : Int32) (v4 : Int32) (v5 : Int32) (v6 : Int32) (h : gx_H) : Option (Int32 × gx_H) :=
  if (6 : Int32) < v6 then
    k30 v0 v1 v2 v3 v4 (v5 + (1 : Int32)) h
  else
    fX11_look_52 k30 k39 gx_N v0 v1 v2 v3 v4 v5 v6 (0 : Int32) (0 : Int32) h
def fX11_look_39 (k30 : Nat → Int32 → Int32 → Int32 → Int32 → Int32 → gx_H → Option (Int32 × gx_H)) : Nat → Nat → Int32 → Int32 → Int32 → Int32 → Int32 → Int32 → gx_H → Option (Int32 × gx_H)
  | 0 => fun _ _ _ _ _ _ _ _ => none
  | n + 1 => bX11_look_39 k30 (fX11_look_39 k30 n)
def fX11_look_210 (s0 : Int32) (h : gx_H) : Option (Int32 × gx_H) :=
  some (s0, h)
def bX11_look_30 (k30 : Nat → Int32 → Int32 → Int32 → Int32 → Int32 → gx_H → Option (Int32 × gx_H)) (v0 : Nat) (v1 : Int32) (v2 : Int32) (v3 : Int32) (v4 : Int32) (v5 : Int32) (h : gx_H) : Option (Int32 × gx_H) :=
  if (3 : Int32) < v5 then
    if v2 = 0 then
      fX11_look_210 (-1 : Int32) h
    else
      fX11_look_210 v3 h
  else
    fX11_look_39 k30 gx_N v0 v1 v2 v3 v4 v5 (1 : Int32) h
def fX11_look_30 : Nat → Nat → Int32 → Int32 → Int32 → Int32 → Int32 → gx_H → Option (Int32 × gx_H)
  | 0 => fun _ _ _ _ _ _ _ => none
  | n + 1 => bX11_look_30 (fX11_look_30 n)
def fX11_look (v0 : Nat) (v1 : Int32) (h : gx_H) : Option (Int32 × gx_H) :=
  (gx_isO h v0 9).bind fun _ =>
  gx_bd (fX11_isLink v0 v1 h) fun x2 h1 =>
  if x2 = 0 then
    gx_bd (fX11_bad v0 (-2 : Int32) h1) fun x6 h5 =>
    some (x6, h5)
  else
    gx_bd (fX11_isOf v0 v1 h1) fun x4 h3 =>
    fX11_look_30 gx_N v0 v1 x4 (-1 : Int32) (1000000 : Int32) (0 : Int32) h3
set_option maxRecDepth 100000 in
set_option maxHeartbeats 4000000 in
theorem gX11_look_122 {E : gx_Env} {d : Nat} (k30 : Nat → Int32 → Int32 → Int32 → Int32 → Int32 → gx_H → Option (Int32 × gx_H)) (hk30 : ∀ (v0 : Nat) (v1 : Int32) (v2 : Int32) (v3 : Int32) (v4 : Int32) (v5 : Int32) (h : gx_H), gx_G E RX11 cX11_look 11 (some .int) false (d + 4) 0 0 30 [some (.ref v0), some (.int v1), some (.int v2), some (.int v3), some (.int v4), some (.int v5), none, none, none, none, none] [] h (fun x : Int32 => some (.int x)) (k30 v0 v1 v2 v3 v4 v5 h))  (k39 : Nat → Int32 → Int32 → Int32 → Int32 → Int32 → Int32 → gx_H → Option (Int32 × gx_H)) (hk39 : ∀ (v0 : Nat) (v1 : Int32) (v2 : Int32) (v3 : Int32) (v4 : Int32) (v5 : Int32) (v6 : Int32) (h : gx_H), gx_G E RX11 cX11_look 11 (some .int) false (d + 4) 0 0 39 [some (.ref v0), some (.int v1), some (.int v2), some (.int v3), some (.int v4), some (.int v5), some (.int v6), none, none, none, none] [] h (fun x : Int32 => some (.int x)) (k39 v0 v1 v2 v3 v4 v5 v6 h))  (k52 : Nat → Int32 → Int32 → Int32 → Int32 → Int32 → Int32 → Int32 → Int32 → gx_H → Option (Int32 × gx_H)) (hk52 : ∀ (v0 : Nat) (v1 : Int32) (v2 : Int32) (v3 : Int32) (v4 : Int32) (v5 : Int32) (v6 : Int32) (v7 : Int32) (v8 : Int32) (h : gx_H), gx_G E RX11 cX11_look 11 (some .int) false (d + 4) 0 0 52 [some (.ref v0), some (.int v1), some (.int v2), some (.int v3), some (.int v4), some (.int v5), some (.int v6), some (.int v7), some (.int v8), none, none] [] h (fun x : Int32 => some (.int x)) (k52 v0 v1 v2 v3 v4 v5 v6 v7 v8 h))  (k65 : Nat → Int32 → Int32 → Int32 → Int32 → Int32 → Int32 → Int32 → Int32 → Int32 → Int32 → gx_H → Option (Int32 × gx_H)) (hk65 : ∀ (v0 : Nat) (v1 : Int32) (v2 : Int32) (v3 : Int32) (v4 : Int32) (v5 : Int32) (v6 : Int32) (v7 : Int32) (v8 : Int32) (v9 : Int32) (v10 : Int32) (h : gx_H), gx_G E RX11 cX11_look 11 (some .int) false (d + 4) 0 0 65 [some (.ref v0), some (.int v1), some (.int v2), some (.int v3), some (.int v4), some (.int v5), some (.int v6), some (.int v7), some (.int v8), some (.int v9), some (.int v10)] [] h (fun x : Int32 => some (.int x)) (k65 v0 v1 v2 v3 v4 v5 v6 v7 v8 v9 v10 h))  : ∀ (v0 : Nat) (v1 : Int32) (v2 : Int32) (v3 : Int32) (v4 : Int32) (v5 : Int32) (v6 : Int32) (v7 : Int32) (v8 : Int32) (v10 : Int32) (s0 : Int32) (s1 : Int32) (h : gx_H), gx_G E RX11 cX11_look 11 (some .int) false (d + 4) 0 0 122 [some (.ref v0), some (.int v1), some (.int v2), some (.int v3), some (.int v4), some (.int v5), some (.int v6), some (.int v7), some (.int v8), none, some (.int v10)] [.int s1, .int s0] h (fun x : Int32 => some (.int x)) (fX11_look_122 k30 k39 k52 k65 v0 v1 v2 v3 v4 v5 v6 v7 v8 v10 s0 s1 h) := by
  intro v0 v1 v2 v3 v4 v5 v6 v7 v8 v10 s0 s1 h
  unfold fX11_look_122
  refine gx_iadd dX11_look_122 ?_
  refine gx_istore [some (.ref v0), some (.int v1), some (.int v2), some (.int v3), some (.int v4), some (.int v5), some (.int v6), some (.int v7), some (.int v8), some (.int (s0 + s1)), some (.int v10)] dX11_look_123 (by decide) rfl ?_
  refine gx_iinc (1 : Int32) [some (.ref v0), some (.int v1), some (.int v2), some (.int v3), some (.int v4), some (.int v5), some (.int v6), some (.int v7), some (.int v8), some (.int (s0 + s1)), some (.int (v10 + (1 : Int32)))] dX11_look_125 rfl (by decide) (by decide) rfl ?_
  refine gx_goto 65 dX11_look_128 (by decide) ?_
  exact gx_sub (hk65 v0 v1 v2 v3 v4 v5 v6 v7 v8 (s0 + s1) (v10 + (1 : Int32)) h) (And.intro rfl (And.intro rfl (And.intro rfl (And.intro rfl (And.intro rfl (And.intro rfl (And.intro rfl (And.intro rfl (And.intro rfl (And.intro rfl (And.intro rfl True.intro)))))))))))
set_option maxRecDepth 100000 in
set_option maxHeartbeats 4000000 in
theorem gX11_look_121 {E : gx_Env} {d : Nat} (k30 : Nat → Int32 → Int32 → Int32 → Int32 → Int32 → gx_H → Option (Int32 × gx_H)) (hk30 : ∀ (v0 : Nat) (v1 : Int32) (v2 : Int32) (v3 : Int32) (v4 : Int32) (v5 : Int32) (h : gx_H), gx_G E RX11 cX11_look 11 (some .int) false (d + 4) 0 0 30 [some (.ref v0), some (.int v1), some (.int v2), some (.int v3), some (.int v4), some (.int v5), none, none, none, none, none] [] h (fun x : Int32 => some (.int x)) (k30 v0 v1 v2 v3 v4 v5 h))  (k39 : Nat → Int32 → Int32 → Int32 → Int32 → Int32 → Int32 → gx_H → Option (Int32 × gx_H)) (hk39 : ∀ (v0 : Nat) (v1 : Int32) (v2 : Int32) (v3 : Int32) (v4 : Int32) (v5 : Int32) (v6 : Int32) (h : gx_H), gx_G E RX11 cX11_look 11 (some .int) false (d + 4) 0 0 39 [some (.ref v0), some (.int v1), some (.int v2), some (.int v3), some (.int v4), some (.int v5), some (.int v6), none, none, none, none] [] h (fun x : Int32 => some (.int x)) (k39 v0 v1 v2 v3 v4 v5 v6 h))  (k52 : Nat → Int32 → Int32 → Int32 → Int32 → Int32 → Int32 → Int32 → Int32 → gx_H → Option (Int32 × gx_H)) (hk52 : ∀ (v0 : Nat) (v1 : Int32) (v2 : Int32) (v3 : Int32) (v4 : Int32) (v5 : Int32) (v6 : Int32) (v7 : Int32) (v8 : Int32) (h : gx_H), gx_G E RX11 cX11_look 11 (some .int) false (d + 4) 0 0 52 [some (.ref v0), some (.int v1), some (.int v2), some (.int v3), some (.int v4), some (.int v5), some (.int v6), some (.int v7), some (.int v8), none, none] [] h (fun x : Int32 => some (.int x)) (k52 v0 v1 v2 v3 v4 v5 v6 v7 v8 h))  (k65 : Nat → Int32 → Int32 → Int32 → Int32 → Int32 → Int32 → Int32 → Int32 → Int32 → Int32 → gx_H → Option (Int32 × gx_H)) (hk65 : ∀ (v0 : Nat) (v1 : Int32) (v2 : Int32) (v3 : Int32) (v4 : Int32) (v5 : Int32) (v6 : Int32) (v7 : Int32) (v8 : Int32) (v9 : Int32) (v10 : Int32) (h : gx_H), gx_G E RX11 cX11_look 11 (some .int) false (d + 4) 0 0 65 [some (.ref v0), some (.int v1), some (.int v2), some (.int v3), some (.int v4), some (.int v5), some (.int v6), some (.int v7), some (.int v8), some (.int v9), some (.int v10)] [] h (fun x : Int32 => some (.int x)) (k65 v0 v1 v2 v3 v4 v5 v6 v7 v8 v9 v10 h))  : ∀ (v0 : Nat) (v1 : Int32) (v2 : Int32) (v3 : Int32) (v4 : Int32) (v5 : Int32) (v6 : Int32) (v7 : Int32) (v8 : Int32) (v10 : Int32) (s0 : Int32) (h : gx_H), gx_G E RX11 cX11_look 11 (some .int) false (d + 4) 0 0 121 [some (.ref v0), some (.int v1), some (.int v2), some (.int v3), some (.int v4), some (.int v5), some (.int v6), some (.int v7), some (.int v8), none, some (.int v10)] [.int s0] h (fun x : Int32 => some (.int x)) (fX11_look_121 k30 k39 k52 k65 v0 v1 v2 v3 v4 v5 v6 v7 v8 v10 s0 h) := by
  intro v0 v1 v2 v3 v4 v5 v6 v7 v8 v10 s0 h
  unfold fX11_look_121
  refine gx_iconst (0 : Int32) dX11_look_121 (by decide) ?_
  exact gx_sub (gX11_look_122 k30 hk30 k39 hk39 k52 hk52 k65 hk65 v0 v1 v2 v3 v4 v5 v6 v7 v8 v10 s0 (0 : Int32) h) (And.intro rfl (And.intro rfl (And.intro rfl (And.intro rfl (And.intro rfl (And.intro rfl (And.intro rfl (And.intro rfl (And.intro rfl (And.intro rfl True.intro))))))))))
set_option maxRecDepth 100000 in
set_option maxHeartbeats 4000000 in
theorem gX11_look_145 {E : gx_Env} {d : Nat} (k30 : Nat → Int32 → Int32 → Int32 → Int32 → Int32 → gx_H → Option (Int32 × gx_H)) (hk30 : ∀ (v0 : Nat) (v1 : Int32) (v2 : Int32) (v3 : Int32) (v4 : Int32) (v5 : Int32) (h : gx_H), gx_G E RX11 cX11_look 11 (some .int) false (d + 4) 0 0 30 [some (.ref v0), some (.int v1), some (.int v2), some (.int v3), some (.int v4), some (.int v5), none, none, none, none, none] [] h (fun x : Int32 => some (.int x)) (k30 v0 v1 v2 v3 v4 v5 h))  (k39 : Nat → Int32 → Int32 → Int32 → Int32 → Int32 → Int32 → gx_H → Option (Int32 × gx_H)) (hk39 : ∀ (v0 : Nat) (v1 : Int32) (v2 : Int32) (v3 : Int32) (v4 : Int32) (v5 : Int32) (v6 : Int32) (h : gx_H), gx_G E RX11 cX11_look 11 (some .int) false (d + 4) 0 0 39 [some (.ref v0), some (.int v1), some (.int v2), some (.int v3), some (.int v4), some (.int v5), some (.int v6), none, none, none, none] [] h (fun x : Int32 => some (.int x)) (k39 v0 v1 v2 v3 v4 v5 v6 h))  (k52 : Nat → Int32 → Int32 → Int32 → Int32 → Int32 → Int32 → Int32 → Int32 → gx_H → Option (Int32 × gx_H)) (hk52 : ∀ (v0 : Nat) (v1 : Int32) (v2 : Int32) (v3 : Int32) (v4 : Int32) (v5 : Int32) (v6 : Int32) (v7 : Int32) (v8 : Int32) (h : gx_H), gx_G E RX11 cX11_look 11 (some .int) false (d + 4) 0 0 52 [some (.ref v0), some (.int v1), some (.int v2), some (.int v3), some (.int v4), some (.int v5), some (.int v6), some (.int v7), some (.int v8), none, none] [] h (fun x : Int32 => some (.int x)) (k52 v0 v1 v2 v3 v4 v5 v6 v7 v8 h))  : ∀ (v0 : Nat) (v1 : Int32) (v2 : Int32) (v3 : Int32) (v4 : Int32) (v5 : Int32) (v6 : Int32) (v8 : Int32) (s0 : Int32) (h : gx_H), gx_G E RX11 cX11_look 11 (some .int) false (d + 4) 0 0 145 [some (.ref v0), some (.int v1), some (.int v2), some (.int v3), some (.int v4), some (.int v5), some (.int v6), none, some (.int v8), none, none] [.int s0] h (fun x : Int32 => some (.int x)) (fX11_look_145 k30 k39 k52 v0 v1 v2 v3 v4 v5 v6 v8 s0 h) := by
  intro v0 v1 v2 v3 v4 v5 v6 v8 s0 h
  unfold fX11_look_145
  refine gx_istore [some (.ref v0), some (.int v1), some (.int v2), some (.int v3), some (.int v4), some (.int v5), some (.int v6), some (.int s0), some (.int v8), none, none] dX11_look_145 (by decide) rfl ?_
  refine gx_iinc (1 : Int32) [some (.ref v0), some (.int v1), some (.int v2), some (.int v3), some (.int v4), some (.int v5), some (.int v6), some (.int s0), some (.int (v8 + (1 : Int32))), none, none] dX11_look_147 rfl (by decide) (by decide) rfl ?_
  refine gx_goto 52 dX11_look_150 (by decide) ?_
  exact gx_sub (hk52 v0 v1 v2 v3 v4 v5 v6 s0 (v8 + (1 : Int32)) h) (And.intro rfl (And.intro rfl (And.intro rfl (And.intro rfl (And.intro rfl (And.intro rfl (And.intro rfl (And.intro rfl (And.intro rfl True.intro)))))))))
set_option maxRecDepth 100000 in
set_option maxHeartbeats 4000000 in
theorem gbX11_look_65 {E : gx_Env} {d : Nat} (k30 : Nat → Int32 → Int32 → Int32 → Int32 → Int32 → gx_H → Option (Int32 × gx_H)) (hk30 : ∀ (v0 : Nat) (v1 : Int32) (v2 : Int32) (v3 : Int32) (v4 : Int32) (v5 : Int32) (h : gx_H), gx_G E RX11 cX11_look 11 (some .int) false (d + 4) 0 0 30 [some (.ref v0), some (.int v1), some (.int v2), some (.int v3), some (.int v4), some (.int v5), none, none, none, none, none] [] h (fun x : Int32 => some (.int x)) (k30 v0 v1 v2 v3 v4 v5 h))  (k39 : Nat → Int32 → Int32 → Int32 → Int32 → Int32 → Int32 → gx_H → Option (Int32 × gx_H)) (hk39 : ∀ (v0 : Nat) (v1 : Int32) (v2 : Int32) (v3 : Int32) (v4 : Int32) (v5 : Int32) (v6 : Int32) (h : gx_H), gx_G E RX11 cX11_look 11 (some .int) false (d + 4) 0 0 39 [some (.ref v0), some (.int v1), some (.int v2), some (.int v3), some (.int v4), some (.int v5), some (.int v6), none, none, none, none] [] h (fun x : Int32 => some (.int x)) (k39 v0 v1 v2 v3 v4 v5 v6 h))  (k52 : Nat → Int32 → Int32 → Int32 → Int32 → Int32 → Int32 → Int32 → Int32 → gx_H → Option (Int32 × gx_H)) (hk52 : ∀ (v0 : Nat) (v1 : Int32) (v2 : Int32) (v3 : Int32) (v4 : Int32) (v5 : Int32) (v6 : Int32) (v7 : Int32) (v8 : Int32) (h : gx_H), gx_G E RX11 cX11_look 11 (some .int) false (d + 4) 0 0 52 [some (.ref v0), some (.int v1), some (.int v2), some (.int v3), some (.int v4), some (.int v5), some (.int v6), some (.int v7), some (.int v8), none, none] [] h (fun x : Int32 => some (.int x)) (k52 v0 v1 v2 v3 v4 v5 v6 v7 v8 h))  (k65 : Nat → Int32 → Int32 → Int32 → Int32 → Int32 → Int32 → Int32 → Int32 → Int32 → Int32 → gx_H → Option (Int32 × gx_H)) (hk65 : ∀ (v0 : Nat) (v1 : Int32) (v2 : Int32) (v3 : Int32) (v4 : Int32) (v5 : Int32) (v6 : Int32) (v7 : Int32) (v8 : Int32) (v9 : Int32) (v10 : Int32) (h : gx_H), gx_G E RX11 cX11_look 11 (some .int) false (d + 4) 0 0 65 [some (.ref v0), some (.int v1), some (.int v2), some (.int v3), some (.int v4), some (.int v5), some (.int v6), some (.int v7), some (.int v8), some (.int v9), some (.int v10)] [] h (fun x : Int32 => some (.int x)) (k65 v0 v1 v2 v3 v4 v5 v6 v7 v8 v9 v10 h))  : ∀ (v0 : Nat) (v1 : Int32) (v2 : Int32) (v3 : Int32) (v4 : Int32) (v5 : Int32) (v6 : Int32) (v7 : Int32) (v8 : Int32) (v9 : Int32) (v10 : Int32) (h : gx_H), gx_G E RX11 cX11_look 11 (some .int) false (d + 4) 0 0 65 [some (.ref v0), some (.int v1), some (.int v2), some (.int v3), some (.int v4), some (.int v5), some (.int v6), some (.int v7), some (.int v8), some (.int v9), some (.int v10)] [] h (fun x : Int32 => some (.int x)) (bX11_look_65 k30 k39 k52 k65 v0 v1 v2 v3 v4 v5 v6 v7 v8 v9 v10 h) := by
  intro v0 v1 v2 v3 v4 v5 v6 v7 v8 v9 v10 h
  unfold bX11_look_65
  refine gx_iload dX11_look_65 rfl ?_
  refine gx_bipush (6 : Int32) dX11_look_67 (by decide) ?_
  refine gx_icmp_ge 131 dX11_look_69 (by decide) (fun _ => ?_) (fun _ => ?_)
  · refine gx_iload dX11_look_131 rfl ?_
    refine gx_iload dX11_look_133 rfl ?_
    refine gx_icmp_le 143 dX11_look_135 (by decide) (fun _ => ?_) (fun _ => ?_)
    · refine gx_iload dX11_look_143 rfl ?_
      exact gx_sub (gX11_look_145 k30 hk30 k39 hk39 k52 hk52 v0 v1 v2 v3 v4 v5 v6 v8 v7 h) (And.intro rfl (And.intro rfl (And.intro rfl (And.intro rfl (And.intro rfl (And.intro rfl (And.intro rfl (And.intro rfl True.intro))))))))
    · refine gx_iload dX11_look_138 rfl ?_
      refine gx_goto 145 dX11_look_140 (by decide) ?_
      exact gx_sub (gX11_look_145 k30 hk30 k39 hk39 k52 hk52 v0 v1 v2 v3 v4 v5 v6 v8 v9 h) (And.intro rfl (And.intro rfl (And.intro rfl (And.intro rfl (And.intro rfl (And.intro rfl (And.intro rfl (And.intro rfl True.intro))))))))
  · refine gx_iload dX11_look_72 rfl ?_
    refine gx_iload_n 2 dX11_look_74 rfl rfl ?_
    refine gx_iload dX11_look_75 rfl ?_
    refine gx_callS (bc := 0) (bs := 0) (mc := 0) (ms := 0) (em' := (fun x : Int32 => some (.int x))) [.int v2, .int v8] kc_RX11_233 dX11_look_77 rfl rfl (gx_w8 rfl) (fun _ _ q => okX11_has (d + 3) q) (fun x8 h7 => ?_)
    refine gx_if_eq 121 dX11_look_80 (by decide) (fun _ => ?_) (fun _ => ?_)
    · exact gx_sub (gX11_look_121 k30 hk30 k39 hk39 k52 hk52 k65 hk65 v0 v1 v2 v3 v4 v5 v6 v7 v8 v10 v9 h7) (And.intro rfl (And.intro rfl (And.intro rfl (And.intro rfl (And.intro rfl (And.intro rfl (And.intro rfl (And.intro rfl (And.intro rfl (And.intro rfl True.intro))))))))))
    · refine gx_iload_n 2 dX11_look_83 rfl rfl ?_
      refine gx_iload dX11_look_84 rfl ?_
      refine gx_callS (bc := 0) (bs := 0) (mc := 0) (ms := 0) (em' := (fun x : Int32 => some (.int x))) [.int v2, .int v10] kc_RX11_233 dX11_look_86 rfl rfl (gx_w8 rfl) (fun _ _ q => okX11_has (d + 3) q) (fun x10 h9 => ?_)
      refine gx_if_eq 121 dX11_look_89 (by decide) (fun _ => ?_) (fun _ => ?_)
      · exact gx_sub (gX11_look_121 k30 hk30 k39 hk39 k52 hk52 k65 hk65 v0 v1 v2 v3 v4 v5 v6 v7 v8 v10 v9 h9) (And.intro rfl (And.intro rfl (And.intro rfl (And.intro rfl (And.intro rfl (And.intro rfl (And.intro rfl (And.intro rfl (And.intro rfl (And.intro rfl True.intro))))))))))
      · refine gx_aload_n 0 dX11_look_92 rfl rfl ?_
        refine gx_iload dX11_look_93 rfl ?_
        refine gx_iload_n 1 dX11_look_95 rfl rfl ?_
        refine gx_iload dX11_look_96 rfl ?_
        refine gx_iload dX11_look_98 rfl ?_
        refine gx_callV (ci := 9) (bc := 0) (bs := 0) (mc := 0) (ms := 0) (em' := (fun x : Int32 => some (.int x))) [.int v8, .int v1, .int v5, .int v6] kc_RX11_226 rfl dX11_look_100 rfl rfl (gx_w8 rfl) (fun x q => (gx_isO_of (by unfold fX11_leads at q; exact q)).2) (fun _ _ q => okX11_leads (d + 1) q) (fun x12 h11 => ?_)
        refine gx_aload_n 0 dX11_look_103 rfl rfl ?_
        refine gx_iload dX11_look_104 rfl ?_
        refine gx_iload_n 1 dX11_look_106 rfl rfl ?_
        refine gx_iload dX11_look_107 rfl ?_
        refine gx_iload dX11_look_109 rfl ?_
        refine gx_callV (ci := 9) (bc := 0) (bs := 0) (mc := 0) (ms := 0) (em' := (fun x : Int32 => some (.int x))) [.int v10, .int v1, .int v5, .int v6] kc_RX11_226 rfl dX11_look_111 rfl rfl (gx_w8 rfl) (fun x q => (gx_isO_of (by unfold fX11_leads at q; exact q)).2) (fun _ _ q => okX11_leads (d + 1) q) (fun x14 h13 => ?_)
        refine gx_icmp_ne 121 dX11_look_114 (by decide) (fun _ => ?_) (fun _ => ?_)
        · exact gx_sub (gX11_look_121 k30 hk30 k39 hk39 k52 hk52 k65 hk65 v0 v1 v2 v3 v4 v5 v6 v7 v8 v10 v9 h13) (And.intro rfl (And.intro rfl (And.intro rfl (And.intro rfl (And.intro rfl (And.intro rfl (And.intro rfl (And.intro rfl (And.intro rfl (And.intro rfl True.intro))))))))))
        · refine gx_iconst (1 : Int32) dX11_look_117 (by decide) ?_
          refine gx_goto 122 dX11_look_118 (by decide) ?_
          exact gx_sub (gX11_look_122 k30 hk30 k39 hk39 k52 hk52 k65 hk65 v0 v1 v2 v3 v4 v5 v6 v7 v8 v10 v9 (1 : Int32) h13) (And.intro rfl (And.intro rfl (And.intro rfl (And.intro rfl (And.intro rfl (And.intro rfl (And.intro rfl (And.intro rfl (And.intro rfl (And.intro rfl True.intro))))))))))
set_option maxRecDepth 100000 in
set_option maxHeartbeats 4000000 in
theorem gX11_look_65 {E : gx_Env} {d : Nat} (k30 : Nat → Int32 → Int32 → Int32 → Int32 → Int32 → gx_H → Option (Int32 × gx_H)) (hk30 : ∀ (v0 : Nat) (v1 : Int32) (v2 : Int32) (v3 : Int32) (v4 : Int32) (v5 : Int32) (h : gx_H), gx_G E RX11 cX11_look 11 (some .int) false (d + 4) 0 0 30 [some (.ref v0), some (.int v1), some (.int v2), some (.int v3), some (.int v4), some (.int v5), none, none, none, none, none] [] h (fun x : Int32 => some (.int x)) (k30 v0 v1 v2 v3 v4 v5 h))  (k39 : Nat → Int32 → Int32 → Int32 → Int32 → Int32 → Int32 → gx_H → Option (Int32 × gx_H)) (hk39 : ∀ (v0 : Nat) (v1 : Int32) (v2 : Int32) (v3 : Int32) (v4 : Int32) (v5 : Int32) (v6 : Int32) (h : gx_H), gx_G E RX11 cX11_look 11 (some .int) false (d + 4) 0 0 39 [some (.ref v0), some (.int v1), some (.int v2), some (.int v3), some (.int v4), some (.int v5), some (.int v6), none, none, none, none] [] h (fun x : Int32 => some (.int x)) (k39 v0 v1 v2 v3 v4 v5 v6 h))  (k52 : Nat → Int32 → Int32 → Int32 → Int32 → Int32 → Int32 → Int32 → Int32 → gx_H → Option (Int32 × gx_H)) (hk52 : ∀ (v0 : Nat) (v1 : Int32) (v2 : Int32) (v3 : Int32) (v4 : Int32) (v5 : Int32) (v6 : Int32) (v7 : Int32) (v8 : Int32) (h : gx_H), gx_G E RX11 cX11_look 11 (some .int) false (d + 4) 0 0 52 [some (.ref v0), some (.int v1), some (.int v2), some (.int v3), some (.int v4), some (.int v5), some (.int v6), some (.int v7), some (.int v8), none, none] [] h (fun x : Int32 => some (.int x)) (k52 v0 v1 v2 v3 v4 v5 v6 v7 v8 h))  : ∀ (n : Nat) (v0 : Nat) (v1 : Int32) (v2 : Int32) (v3 : Int32) (v4 : Int32) (v5 : Int32) (v6 : Int32) (v7 : Int32) (v8 : Int32) (v9 : Int32) (v10 : Int32) (h : gx_H), gx_G E RX11 cX11_look 11 (some .int) false (d + 4) 0 0 65 [some (.ref v0), some (.int v1), some (.int v2), some (.int v3), some (.int v4), some (.int v5), some (.int v6), some (.int v7), some (.int v8), some (.int v9), some (.int v10)] [] h (fun x : Int32 => some (.int x)) (fX11_look_65 k30 k39 k52 n v0 v1 v2 v3 v4 v5 v6 v7 v8 v9 v10 h) := by
  intro n
  induction n with
  | zero => intro v0 v1 v2 v3 v4 v5 v6 v7 v8 v9 v10 h; exact gx_none
  | succ n ih => exact gbX11_look_65 k30 hk30 k39 hk39 k52 hk52 (fX11_look_65 k30 k39 k52 n) ih
set_option maxRecDepth 100000 in
set_option maxHeartbeats 4000000 in
theorem gX11_look_187 {E : gx_Env} {d : Nat} (k30 : Nat → Int32 → Int32 → Int32 → Int32 → Int32 → gx_H → Option (Int32 × gx_H)) (hk30 : ∀ (v0 : Nat) (v1 : Int32) (v2 : Int32) (v3 : Int32) (v4 : Int32) (v5 : Int32) (h : gx_H), gx_G E RX11 cX11_look 11 (some .int) false (d + 4) 0 0 30 [some (.ref v0), some (.int v1), some (.int v2), some (.int v3), some (.int v4), some (.int v5), none, none, none, none, none] [] h (fun x : Int32 => some (.int x)) (k30 v0 v1 v2 v3 v4 v5 h))  (k39 : Nat → Int32 → Int32 → Int32 → Int32 → Int32 → Int32 → gx_H → Option (Int32 × gx_H)) (hk39 : ∀ (v0 : Nat) (v1 : Int32) (v2 : Int32) (v3 : Int32) (v4 : Int32) (v5 : Int32) (v6 : Int32) (h : gx_H), gx_G E RX11 cX11_look 11 (some .int) false (d + 4) 0 0 39 [some (.ref v0), some (.int v1), some (.int v2), some (.int v3), some (.int v4), some (.int v5), some (.int v6), none, none, none, none] [] h (fun x : Int32 => some (.int x)) (k39 v0 v1 v2 v3 v4 v5 v6 h))  : ∀ (v0 : Nat) (v1 : Int32) (v2 : Int32) (v3 : Int32) (v5 : Int32) (v6 : Int32) (s0 : Int32) (h : gx_H), gx_G E RX11 cX11_look 11 (some .int) false (d + 4) 0 0 187 [some (.ref v0), some (.int v1), some (.int v2), some (.int v3), none, some (.int v5), some (.int v6), none, none, none, none] [.int s0] h (fun x : Int32 => some (.int x)) (fX11_look_187 k30 k39 v0 v1 v2 v3 v5 v6 s0 h) := by
  intro v0 v1 v2 v3 v5 v6 s0 h
  unfold fX11_look_187
  refine gx_istore [some (.ref v0), some (.int v1), some (.int v2), some (.int v3), some (.int s0), some (.int v5), some (.int v6), none, none, none, none] dX11_look_187 (by decide) rfl ?_
  refine gx_iinc (1 : Int32) [some (.ref v0), some (.int v1), some (.int v2), some (.int v3), some (.int s0), some (.int v5), some (.int (v6 + (1 : Int32))), none, none, none, none] dX11_look_189 rfl (by decide) (by decide) rfl ?_
  refine gx_goto 39 dX11_look_192 (by decide) ?_
  exact gx_sub (hk39 v0 v1 v2 v3 s0 v5 (v6 + (1 : Int32)) h) (And.intro rfl (And.intro rfl (And.intro rfl (And.intro rfl (And.intro rfl (And.intro rfl (And.intro rfl True.intro)))))))
set_option maxRecDepth 100000 in
set_option maxHeartbeats 4000000 in
theorem gX11_look_172 {E : gx_Env} {d : Nat} (k30 : Nat → Int32 → Int32 → Int32 → Int32 → Int32 → gx_H → Option (Int32 × gx_H)) (hk30 : ∀ (v0 : Nat) (v1 : Int32) (v2 : Int32) (v3 : Int32) (v4 : Int32) (v5 : Int32) (h : gx_H), gx_G E RX11 cX11_look 11 (some .int) false (d + 4) 0 0 30 [some (.ref v0), some (.int v1), some (.int v2), some (.int v3), some (.int v4), some (.int v5), none, none, none, none, none] [] h (fun x : Int32 => some (.int x)) (k30 v0 v1 v2 v3 v4 v5 h))  (k39 : Nat → Int32 → Int32 → Int32 → Int32 → Int32 → Int32 → gx_H → Option (Int32 × gx_H)) (hk39 : ∀ (v0 : Nat) (v1 : Int32) (v2 : Int32) (v3 : Int32) (v4 : Int32) (v5 : Int32) (v6 : Int32) (h : gx_H), gx_G E RX11 cX11_look 11 (some .int) false (d + 4) 0 0 39 [some (.ref v0), some (.int v1), some (.int v2), some (.int v3), some (.int v4), some (.int v5), some (.int v6), none, none, none, none] [] h (fun x : Int32 => some (.int x)) (k39 v0 v1 v2 v3 v4 v5 v6 h))  : ∀ (v0 : Nat) (v1 : Int32) (v2 : Int32) (v4 : Int32) (v5 : Int32) (v6 : Int32) (v7 : Int32) (s0 : Int32) (h : gx_H), gx_G E RX11 cX11_look 11 (some .int) false (d + 4) 0 0 172 [some (.ref v0), some (.int v1), some (.int v2), none, some (.int v4), some (.int v5), some (.int v6), some (.int v7), none, none, none] [.int s0] h (fun x : Int32 => some (.int x)) (fX11_look_172 k30 k39 v0 v1 v2 v4 v5 v6 v7 s0 h) := by
  intro v0 v1 v2 v4 v5 v6 v7 s0 h
  unfold fX11_look_172
  refine gx_istore_n 3 [some (.ref v0), some (.int v1), some (.int v2), some (.int s0), some (.int v4), some (.int v5), some (.int v6), some (.int v7), none, none, none] dX11_look_172 rfl (by decide) rfl ?_
  refine gx_iload dX11_look_173 rfl ?_
  refine gx_iload dX11_look_175 rfl ?_
  refine gx_icmp_ge 185 dX11_look_177 (by decide) (fun _ => ?_) (fun _ => ?_)
  · refine gx_iload dX11_look_185 rfl ?_
    exact gx_sub (gX11_look_187 k30 hk30 k39 hk39 v0 v1 v2 s0 v5 v6 v4 h) (And.intro rfl (And.intro rfl (And.intro rfl (And.intro rfl (And.intro rfl (And.intro rfl True.intro))))))
  · refine gx_iload dX11_look_180 rfl ?_
    refine gx_goto 187 dX11_look_182 (by decide) ?_
    exact gx_sub (gX11_look_187 k30 hk30 k39 hk39 v0 v1 v2 s0 v5 v6 v7 h) (And.intro rfl (And.intro rfl (And.intro rfl (And.intro rfl (And.intro rfl (And.intro rfl True.intro))))))
set_option maxRecDepth 100000 in
set_option maxHeartbeats 4000000 in
theorem gbX11_look_52 {E : gx_Env} {d : Nat} (k30 : Nat → Int32 → Int32 → Int32 → Int32 → Int32 → gx_H → Option (Int32 × gx_H)) (hk30 : ∀ (v0 : Nat) (v1 : Int32) (v2 : Int32) (v3 : Int32) (v4 : Int32) (v5 : Int32) (h : gx_H), gx_G E RX11 cX11_look 11 (some .int) false (d + 4) 0 0 30 [some (.ref v0), some (.int v1), some (.int v2), some (.int v3), some (.int v4), some (.int v5), none, none, none, none, none] [] h (fun x : Int32 => some (.int x)) (k30 v0 v1 v2 v3 v4 v5 h))  (k39 : Nat → Int32 → Int32 → Int32 → Int32 → Int32 → Int32 → gx_H → Option (Int32 × gx_H)) (hk39 : ∀ (v0 : Nat) (v1 : Int32) (v2 : Int32) (v3 : Int32) (v4 : Int32) (v5 : Int32) (v6 : Int32) (h : gx_H), gx_G E RX11 cX11_look 11 (some .int) false (d + 4) 0 0 39 [some (.ref v0), some (.int v1), some (.int v2), some (.int v3), some (.int v4), some (.int v5), some (.int v6), none, none, none, none] [] h (fun x : Int32 => some (.int x)) (k39 v0 v1 v2 v3 v4 v5 v6 h))  (k52 : Nat → Int32 → Int32 → Int32 → Int32 → Int32 → Int32 → Int32 → Int32 → gx_H → Option (Int32 × gx_H)) (hk52 : ∀ (v0 : Nat) (v1 : Int32) (v2 : Int32) (v3 : Int32) (v4 : Int32) (v5 : Int32) (v6 : Int32) (v7 : Int32) (v8 : Int32) (h : gx_H), gx_G E RX11 cX11_look 11 (some .int) false (d + 4) 0 0 52 [some (.ref v0), some (.int v1), some (.int v2), some (.int v3), some (.int v4), some (.int v5), some (.int v6), some (.int v7), some (.int v8), none, none] [] h (fun x : Int32 => some (.int x)) (k52 v0 v1 v2 v3 v4 v5 v6 v7 v8 h))  : ∀ (v0 : Nat) (v1 : Int32) (v2 : Int32) (v3 : Int32) (v4 : Int32) (v5 : Int32) (v6 : Int32) (v7 : Int32) (v8 : Int32) (h : gx_H), gx_G E RX11 cX11_look 11 (some .int) false (d + 4) 0 0 52 [some (.ref v0), some (.int v1), some (.int v2), some (.int v3), some (.int v4), some (.int v5), some (.int v6), some (.int v7), some (.int v8), none, none] [] h (fun x : Int32 => some (.int x)) (bX11_look_52 k30 k39 k52 v0 v1 v2 v3 v4 v5 v6 v7 v8 h) := by
  intro v0 v1 v2 v3 v4 v5 v6 v7 v8 h
  unfold bX11_look_52
  refine gx_iload dX11_look_52 rfl ?_
  refine gx_bipush (6 : Int32) dX11_look_54 (by decide) ?_
  refine gx_icmp_ge 153 dX11_look_56 (by decide) (fun _ => ?_) (fun _ => ?_)
  · refine gx_iload dX11_look_153 rfl ?_
    refine gx_iload dX11_look_155 rfl ?_
    refine gx_icmp_ge 171 dX11_look_157 (by decide) (fun _ => ?_) (fun _ => ?_)
    · refine gx_iload_n 3 dX11_look_171 rfl rfl ?_
      exact gx_sub (gX11_look_172 k30 hk30 k39 hk39 v0 v1 v2 v4 v5 v6 v7 v3 h) (And.intro rfl (And.intro rfl (And.intro rfl (And.intro rfl (And.intro rfl (And.intro rfl (And.intro rfl True.intro)))))))
    · refine gx_bipush (10 : Int32) dX11_look_160 (by decide) ?_
      refine gx_iload dX11_look_162 rfl ?_
      refine gx_imul dX11_look_164 ?_
      refine gx_iload dX11_look_165 rfl ?_
      refine gx_iadd dX11_look_167 ?_
      refine gx_goto 172 dX11_look_168 (by decide) ?_
      exact gx_sub (gX11_look_172 k30 hk30 k39 hk39 v0 v1 v2 v4 v5 v6 v7 (((10 : Int32) * v5) + v6) h) (And.intro rfl (And.intro rfl (And.intro rfl (And.intro rfl (And.intro rfl (And.intro rfl (And.intro rfl True.intro)))))))
  · refine gx_iconst (0 : Int32) dX11_look_59 (by decide) ?_
    refine gx_istore [some (.ref v0), some (.int v1), some (.int v2), some (.int v3), some (.int v4), some (.int v5), some (.int v6), some (.int v7), some (.int v8), some (.int (0 : Int32)), none] dX11_look_60 (by decide) rfl ?_
    refine gx_iconst (0 : Int32) dX11_look_62 (by decide) ?_
    refine gx_istore [some (.ref v0), some (.int v1), some (.int v2), some (.int v3), some (.int v4), some (.int v5), some (.int v6), some (.int v7), some (.int v8), some (.int (0 : Int32)), some (.int (0 : Int32))] dX11_look_63 (by decide) rfl ?_
    exact gx_sub (gX11_look_65 k30 hk30 k39 hk39 k52 hk52 gx_N v0 v1 v2 v3 v4 v5 v6 v7 v8 (0 : Int32) (0 : Int32) h) (And.intro rfl (And.intro rfl (And.intro rfl (And.intro rfl (And.intro rfl (And.intro rfl (And.intro rfl (And.intro rfl (And.intro rfl (And.intro rfl (And.intro rfl True.intro)))))))))))
set_option maxRecDepth 100000 in
set_option maxHeartbeats 4000000 in
theorem gX11_look_52 {E : gx_Env} {d : Nat} (k30 : Nat → Int32 → Int32 → Int32 → Int32 → Int32 → gx_H → Option (Int32 × gx_H)) (hk30 : ∀ (v0 : Nat) (v1 : Int32) (v2 : Int32) (v3 : Int32) (v4 : Int32) (v5 : Int32) (h : gx_H), gx_G E RX11 cX11_look 11 (some .int) false (d + 4) 0 0 30 [some (.ref v0), some (.int v1), some (.int v2), some (.int v3), some (.int v4), some (.int v5), none, none, none, none, none] [] h (fun x : Int32 => some (.int x)) (k30 v0 v1 v2 v3 v4 v5 h))  (k39 : Nat → Int32 → Int32 → Int32 → Int32 → Int32 → Int32 → gx_H → Option (Int32 × gx_H)) (hk39 : ∀ (v0 : Nat) (v1 : Int32) (v2 : Int32) (v3 : Int32) (v4 : Int32) (v5 : Int32) (v6 : Int32) (h : gx_H), gx_G E RX11 cX11_look 11 (some .int) false (d + 4) 0 0 39 [some (.ref v0), some (.int v1), some (.int v2), some (.int v3), some (.int v4), some (.int v5), some (.int v6), none, none, none, none] [] h (fun x : Int32 => some (.int x)) (k39 v0 v1 v2 v3 v4 v5 v6 h))  : ∀ (n : Nat) (v0 : Nat) (v1 : Int32) (v2 : Int32) (v3 : Int32) (v4 : Int32) (v5 : Int32) (v6 : Int32) (v7 : Int32) (v8 : Int32) (h : gx_H), gx_G E RX11 cX11_look 11 (some .int) false (d + 4) 0 0 52 [some (.ref v0), some (.int v1), some (.int v2), some (.int v3), some (.int v4), some (.int v5), some (.int v6), some (.int v7), some (.int v8), none, none] [] h (fun x : Int32 => some (.int x)) (fX11_look_52 k30 k39 n v0 v1 v2 v3 v4 v5 v6 v7 v8 h) := by
  intro n
  induction n with
  | zero => intro v0 v1 v2 v3 v4 v5 v6 v7 v8 h; exact gx_none
  | succ n ih => exact gbX11_look_52 k30 hk30 k39 hk39 (fX11_look_52 k30 k39 n) ih
set_option maxRecDepth 100000 in
set_option maxHeartbeats 4000000 in
theorem gbX11_look_39 {E : gx_Env} {d : Nat} (k30 : Nat → Int32 → Int32 → Int32 → Int32 → Int32 → gx_H → Option (Int32 × gx_H)) (hk30 : ∀ (v0 : Nat) (v1 : Int32) (v2 : Int32) (v3 : Int32) (v4 : Int32) (v5 : Int32) (h : gx_H), gx_G E RX11 cX11_look 11 (some .int) false (d + 4) 0 0 30 [some (.ref v0), some (.int v1), some (.int v2), some (.int v3), some (.int v4), some (.int v5), none, none, none, none, none] [] h (fun x : Int32 => some (.int x)) (k30 v0 v1 v2 v3 v4 v5 h))  (k39 : Nat → Int32 → Int32 → Int32 → Int32 → Int32 → Int32 → gx_H → Option (Int32 × gx_H)) (hk39 : ∀ (v0 : Nat) (v1 : Int32) (v2 : Int32) (v3 : Int32) (v4 : Int32) (v5 : Int32) (v6 : Int32) (h : gx_H), gx_G E RX11 cX11_look 11 (some .int) false (d + 4) 0 0 39 [some (.ref v0), some (.int v1), some (.int v2), some (.int v3), some (.int v4), some (.int v5), some (.int v6), none, none, none, none] [] h (fun x : Int32 => some (.int x)) (k39 v0 v1 v2 v3 v4 v5 v6 h))  : ∀ (v0 : Nat) (v1 : Int32) (v2 : Int32) (v3 : Int32) (v4 : Int32) (v5 : Int32) (v6 : Int32) (h : gx_H), gx_G E RX11 cX11_look 11 (some .int) false (d + 4) 0 0 39 [some (.ref v0), some (.int v1), some (.int v2), some (.int v3), some (.int v4), some (.int v5), some (.int v6), none, none, none, none] [] h (fun x : Int32 => some (.int x)) (bX11_look_39 k30 k39 v0 v1 v2 v3 v4 v5 v6 h) := by
  intro v0 v1 v2 v3 v4 v5 v6 h
  unfold bX11_look_39
  refine gx_iload dX11_look_39 rfl ?_
  refine gx_bipush (6 : Int32) dX11_look_41 (by decide) ?_
  refine gx_icmp_gt 195 dX11_look_43 (by decide) (fun _ => ?_) (fun _ => ?_)
  · refine gx_iinc (1 : Int32) [some (.ref v0), some (.int v1), some (.int v2), some (.int v3), some (.int v4), some (.int (v5 + (1 : Int32))), some (.int v6), none, none, none, none] dX11_look_195 rfl (by decide) (by decide) rfl ?_
    refine gx_goto 30 dX11_look_198 (by decide) ?_
    exact gx_sub (hk30 v0 v1 v2 v3 v4 (v5 + (1 : Int32)) h) (And.intro rfl (And.intro rfl (And.intro rfl (And.intro rfl (And.intro rfl (And.intro rfl True.intro))))))
  · refine gx_iconst (0 : Int32) dX11_look_46 (by decide) ?_
    refine gx_istore [some (.ref v0), some (.int v1), some (.int v2), some (.int v3), some (.int v4), some (.int v5), some (.int v6), some (.int (0 : Int32)), none, none, none] dX11_look_47 (by decide) rfl ?_
    refine gx_iconst (0 : Int32) dX11_look_49 (by decide) ?_
    refine gx_istore [some (.ref v0), some (.int v1), some (.int v2), some (.int v3), some (.int v4), some (.int v5), some (.int v6), some (.int (0 : Int32)), some (.int (0 : Int32)), none, none] dX11_look_50 (by decide) rfl ?_
    exact gx_sub (gX11_look_52 k30 hk30 k39 hk39 gx_N v0 v1 v2 v3 v4 v5 v6 (0 : Int32) (0 : Int32) h) (And.intro rfl (And.intro rfl (And.intro rfl (And.intro rfl (And.intro rfl (And.intro rfl (And.intro rfl (And.intro rfl (And.intro rfl True.intro)))))))))
set_option maxRecDepth 100000 in
set_option maxHeartbeats 4000000 in
theorem gX11_look_39 {E : gx_Env} {d : Nat} (k30 : Nat → Int32 → Int32 → Int32 → Int32 → Int32 → gx_H → Option (Int32 × gx_H)) (hk30 : ∀ (v0 : Nat) (v1 : Int32) (v2 : Int32) (v3 : Int32) (v4 : Int32) (v5 : Int32) (h : gx_H), gx_G E RX11 cX11_look 11 (some .int) false (d + 4) 0 0 30 [some (.ref v0), some (.int v1), some (.int v2), some (.int v3), some (.int v4), some (.int v5), none, none, none, none, none] [] h (fun x : Int32 => some (.int x)) (k30 v0 v1 v2 v3 v4 v5 h))  : ∀ (n : Nat) (v0 : Nat) (v1 : Int32) (v2 : Int32) (v3 : Int32) (v4 : Int32) (v5 : Int32) (v6 : Int32) (h : gx_H), gx_G E RX11 cX11_look 11 (some .int) false (d + 4) 0 0 39 [some (.ref v0), some (.int v1), some (.int v2), some (.int v3), some (.int v4), some (.int v5), some (.int v6), none, none, none, none] [] h (fun x : Int32 => some (.int x)) (fX11_look_39 k30 n v0 v1 v2 v3 v4 v5 v6 h) := by
  intro n
  induction n with
  | zero => intro v0 v1 v2 v3 v4 v5 v6 h; exact gx_none
  | succ n ih => exact gbX11_look_39 k30 hk30 (fX11_look_39 k30 n) ih
set_option maxRecDepth 100000 in
set_option maxHeartbeats 4000000 in
theorem gX11_look_210 {E : gx_Env} {d : Nat}  : ∀ (s0 : Int32) (h : gx_H), gx_G E RX11 cX11_look 11 (some .int) false (d + 4) 0 0 210 [none, none, none, none, none, none, none, none, none, none, none] [.int s0] h (fun x : Int32 => some (.int x)) (fX11_look_210 s0 h) := by
  intro s0 h
  unfold fX11_look_210
  exact gx_iret dX11_look_210 rfl
set_option maxRecDepth 100000 in
set_option maxHeartbeats 4000000 in
theorem gbX11_look_30 {E : gx_Env} {d : Nat}  (k30 : Nat → Int32 → Int32 → Int32 → Int32 → Int32 → gx_H → Option (Int32 × gx_H)) (hk30 : ∀ (v0 : Nat) (v1 : Int32) (v2 : Int32) (v3 : Int32) (v4 : Int32) (v5 : Int32) (h : gx_H), gx_G E RX11 cX11_look 11 (some .int) false (d + 4) 0 0 30 [some (.ref v0), some (.int v1), some (.int v2), some (.int v3), some (.int v4), some (.int v5), none, none, none, none, none] [] h (fun x : Int32 => some (.int x)) (k30 v0 v1 v2 v3 v4 v5 h))  : ∀ (v0 : Nat) (v1 : Int32) (v2 : Int32) (v3 : Int32) (v4 : Int32) (v5 : Int32) (h : gx_H), gx_G E RX11 cX11_look 11 (some .int) false (d + 4) 0 0 30 [some (.ref v0), some (.int v1), some (.int v2), some (.int v3), some (.int v4), some (.int v5), none, none, none, none, none] [] h (fun x : Int32 => some (.int x)) (bX11_look_30 k30 v0 v1 v2 v3 v4 v5 h) := by
  intro v0 v1 v2 v3 v4 v5 h
  unfold bX11_look_30
  refine gx_iload dX11_look_30 rfl ?_
  refine gx_iconst (3 : Int32) dX11_look_32 (by decide) ?_
  refine gx_icmp_gt 201 dX11_look_33 (by decide) (fun _ => ?_) (fun _ => ?_)
  · refine gx_iload_n 2 dX11_look_201 rfl rfl ?_
    refine gx_if_ne 209 dX11_look_202 (by decide) (fun _ => ?_) (fun _ => ?_)
    · refine gx_iload_n 3 dX11_look_209 rfl rfl ?_
      exact gx_sub (gX11_look_210 v3 h) True.intro
    · refine gx_iconst (-1 : Int32) dX11_look_205 (by decide) ?_
      refine gx_goto 210 dX11_look_206 (by decide) ?_
      exact gx_sub (gX11_look_210 (-1 : Int32) h) True.intro
  · refine gx_iconst (1 : Int32) dX11_look_36 (by decide) ?_
    refine gx_istore [some (.ref v0), some (.int v1), some (.int v2), some (.int v3), some (.int v4), some (.int v5), some (.int (1 : Int32)), none, none, none, none] dX11_look_37 (by decide) rfl ?_
    exact gx_sub (gX11_look_39 k30 hk30 gx_N v0 v1 v2 v3 v4 v5 (1 : Int32) h) (And.intro rfl (And.intro rfl (And.intro rfl (And.intro rfl (And.intro rfl (And.intro rfl (And.intro rfl True.intro)))))))
set_option maxRecDepth 100000 in
set_option maxHeartbeats 4000000 in
theorem gX11_look_30 {E : gx_Env} {d : Nat}  : ∀ (n : Nat) (v0 : Nat) (v1 : Int32) (v2 : Int32) (v3 : Int32) (v4 : Int32) (v5 : Int32) (h : gx_H), gx_G E RX11 cX11_look 11 (some .int) false (d + 4) 0 0 30 [some (.ref v0), some (.int v1), some (.int v2), some (.int v3), some (.int v4), some (.int v5), none, none, none, none, none] [] h (fun x : Int32 => some (.int x)) (fX11_look_30 n v0 v1 v2 v3 v4 v5 h) := by
  intro n
  induction n with
  | zero => intro v0 v1 v2 v3 v4 v5 h; exact gx_none
  | succ n ih => exact gbX11_look_30  (fX11_look_30  n) ih
set_option maxRecDepth 100000 in
set_option maxHeartbeats 4000000 in
theorem geX11_look {E : gx_Env} {d : Nat} (v0 : Nat) (v1 : Int32) (h : gx_H) : gx_G E RX11 cX11_look 11 (some .int) false (d + 4) 0 0 0 [some (.ref v0), some (.int v1), none, none, none, none, none, none, none, none, none] [] h (fun x : Int32 => some (.int x)) (fX11_look v0 v1 h) := by
  unfold fX11_look
  refine gx_bind fun _ _ => ?_
  refine gx_aload_n 0 dX11_look_0 rfl rfl ?_
  refine gx_iload_n 1 dX11_look_1 rfl rfl ?_
  refine gx_callV (ci := 9) (bc := 0) (bs := 0) (mc := 0) (ms := 0) (em' := (fun x : Int32 => some (.int x))) [.int v1] kc_RX11_197 rfl dX11_look_2 rfl rfl (gx_w8 rfl) (fun x q => (gx_isO_of (by unfold fX11_isLink at q; exact q)).2) (fun _ _ q => okX11_isLink (d + 2) q) (fun x2 h1 => ?_)
  refine gx_if_ne 15 dX11_look_5 (by decide) (fun _ => ?_) (fun _ => ?_)
  · refine gx_aload_n 0 dX11_look_15 rfl rfl ?_
    refine gx_iload_n 1 dX11_look_16 rfl rfl ?_
    refine gx_callV (ci := 9) (bc := 0) (bs := 0) (mc := 0) (ms := 0) (em' := (fun x : Int32 => some (.int x))) [.int v1] kc_RX11_229 rfl dX11_look_17 rfl rfl (gx_w8 rfl) (fun x q => (gx_isO_of (by unfold fX11_isOf at q; exact q)).2) (fun _ _ q => okX11_isOf d q) (fun x4 h3 => ?_)
    refine gx_istore_n 2 [some (.ref v0), some (.int v1), some (.int x4), none, none, none, none, none, none, none, none] dX11_look_20 rfl (by decide) rfl ?_
    refine gx_iconst (-1 : Int32) dX11_look_21 (by decide) ?_
    refine gx_istore_n 3 [some (.ref v0), some (.int v1), some (.int x4), some (.int (-1 : Int32)), none, none, none, none, none, none, none] dX11_look_22 rfl (by decide) rfl ?_
    refine gx_ldc kk_RX11_232 dX11_look_23 ?_
    refine gx_istore [some (.ref v0), some (.int v1), some (.int x4), some (.int (-1 : Int32)), some (.int (1000000 : Int32)), none, none, none, none, none, none] dX11_look_25 (by decide) rfl ?_
    refine gx_iconst (0 : Int32) dX11_look_27 (by decide) ?_
    refine gx_istore [some (.ref v0), some (.int v1), some (.int x4), some (.int (-1 : Int32)), some (.int (1000000 : Int32)), some (.int (0 : Int32)), none, none, none, none, none] dX11_look_28 (by decide) rfl ?_
    exact gx_sub (gX11_look_30 gx_N v0 v1 x4 (-1 : Int32) (1000000 : Int32) (0 : Int32) h3) (And.intro rfl (And.intro rfl (And.intro rfl (And.intro rfl (And.intro rfl (And.intro rfl True.intro))))))
  · refine gx_aload_n 0 dX11_look_8 rfl rfl ?_
    refine gx_bipush (-2 : Int32) dX11_look_9 (by decide) ?_
    refine gx_callV (ci := 9) (bc := 0) (bs := 0) (mc := 0) (ms := 0) (em' := (fun x : Int32 => some (.int x))) [.int (-2 : Int32)] kc_RX11_81 rfl dX11_look_11 rfl rfl (gx_w8 rfl) (fun x q => (gx_isO_of (by unfold fX11_bad at q; exact q)).2) (fun _ _ q => okX11_bad (d + 3) q) (fun x6 h5 => ?_)
    exact gx_iret dX11_look_14 rfl
theorem okX11_look {E : gx_Env} (d : Nat) {v0 : Nat} {v1 : Int32} {h : gx_H} {r : Int32} {h1 : gx_H} (q : fX11_look v0 v1 h = some (r, h1)) : gx_M E yX11_look cX11_look 11 (some .int) (d + 4) 0 0 [.ref v0, .int v1] h ((fun x : Int32 => some (.int x)) r) h1 := gx_meth (y := yX11_look) (cc := cX11_look) (nL := 11) (em := (fun x : Int32 => some (.int x))) (ini := false) [.ref v0, .int v1] (by decide) (by simp [gx_sl]) (fun q => by cases q) (geX11_look v0 v1 h) q
theorem dX11_whatOf_0 : decode cX11_whatOf 0 = .ok (.bipush 63, 2) := by decide +kernel
theorem dX11_whatOf_2 : decode cX11_whatOf 2 = .ok (.istore_n 2, 1) := by decide +kernel
theorem dX11_whatOf_3 : decode cX11_whatOf 3 = .ok (.iconst 0, 1) := by decide +kernel
theorem dX11_whatOf_4 : decode cX11_whatOf 4 = .ok (.istore_n 3, 1) := by decide +kernel
theorem dX11_whatOf_5 : decode cX11_whatOf 5 = .ok (.iload_n 3, 1) := by decide +kernel
theorem dX11_whatOf_6 : decode cX11_whatOf 6 = .ok (.bipush 6, 2) := by decide +kernel
theorem dX11_whatOf_8 : decode cX11_whatOf 8 = .ok (.if_icmp .ge 98, 3) := by decide +kernel
theorem dX11_whatOf_11 : decode cX11_whatOf 11 = .ok (.iconst 0, 1) := by decide +kernel
theorem dX11_whatOf_12 : decode cX11_whatOf 12 = .ok (.istore 4, 2) := by decide +kernel
theorem dX11_whatOf_14 : decode cX11_whatOf 14 = .ok (.iload 4, 2) := by decide +kernel
theorem dX11_whatOf_16 : decode cX11_whatOf 16 = .ok (.aload_n 0, 1) := by decide +kernel
theorem dX11_whatOf_17 : decode cX11_whatOf 17 = .ok (.getfield 7, 3) := by decide +kernel
theorem dX11_whatOf_20 : decode cX11_whatOf 20 = .ok (.bipush 65, 2) := by decide +kernel
theorem dX11_whatOf_22 : decode cX11_whatOf 22 = .ok (.iaload, 1) := by decide +kernel
theorem dX11_whatOf_23 : decode cX11_whatOf 23 = .ok (.if_icmp .ge 77, 3) := by decide +kernel
theorem dX11_whatOf_26 : decode cX11_whatOf 26 = .ok (.bipush 66, 2) := by decide +kernel
theorem dX11_whatOf_28 : decode cX11_whatOf 28 = .ok (.iconst 4, 1) := by decide +kernel
theorem dX11_whatOf_29 : decode cX11_whatOf 29 = .ok (.iload 4, 2) := by decide +kernel
theorem dX11_whatOf_31 : decode cX11_whatOf 31 = .ok (.imul, 1) := by decide +kernel
theorem dX11_whatOf_32 : decode cX11_whatOf 32 = .ok (.iadd, 1) := by decide +kernel
theorem dX11_whatOf_33 : decode cX11_whatOf 33 = .ok (.istore 5, 2) := by decide +kernel
theorem dX11_whatOf_35 : decode cX11_whatOf 35 = .ok (.aload_n 0, 1) := by decide +kernel
theorem dX11_whatOf_36 : decode cX11_whatOf 36 = .ok (.getfield 7, 3) := by decide +kernel
theorem dX11_whatOf_39 : decode cX11_whatOf 39 = .ok (.iload 5, 2) := by decide +kernel
theorem dX11_whatOf_41 : decode cX11_whatOf 41 = .ok (.iaload, 1) := by decide +kernel
theorem dX11_whatOf_42 : decode cX11_whatOf 42 = .ok (.iload_n 1, 1) := by decide +kernel
theorem dX11_whatOf_43 : decode cX11_whatOf 43 = .ok (.if_icmp .ne 51, 3) := by decide +kernel
theorem dX11_whatOf_46 : decode cX11_whatOf 46 = .ok (.iload_n 3, 1) := by decide +kernel
theorem dX11_whatOf_47 : decode cX11_whatOf 47 = .ok (.aload_n 0, 1) := by decide +kernel
theorem dX11_whatOf_48 : decode cX11_whatOf 48 = .ok (.getfield 7, 3) := by decide +kernel
theorem dX11_whatOf_51 : decode cX11_whatOf 51 = .ok (.iconst 0, 1) := by decide +kernel
theorem dX11_whatOf_52 : decode cX11_whatOf 52 = .ok (.iaload, 1) := by decide +kernel
theorem dX11_whatOf_53 : decode cX11_whatOf 53 = .ok (.aload_n 0, 1) := by decide +kernel
theorem dX11_whatOf_54 : decode cX11_whatOf 54 = .ok (.getfield 7, 3) := by decide +kernel
theorem dX11_whatOf_57 : decode cX11_whatOf 57 = .ok (.iload 5, 2) := by decide +kernel
theorem dX11_whatOf_59 : decode cX11_whatOf 59 = .ok (.iconst 1, 1) := by decide +kernel
theorem dX11_whatOf_60 : decode cX11_whatOf 60 = .ok (.iadd, 1) := by decide +kernel
theorem dX11_whatOf_61 : decode cX11_whatOf 61 = .ok (.iaload, 1) := by decide +kernel
theorem dX11_whatOf_62 : decode cX11_whatOf 62 = .ok (.aload_n 0, 1) := by decide +kernel
theorem dX11_whatOf_63 : decode cX11_whatOf 63 = .ok (.getfield 7, 3) := by decide +kernel
theorem dX11_whatOf_66 : decode cX11_whatOf 66 = .ok (.iload 5, 2) := by decide +kernel
theorem dX11_whatOf_68 : decode cX11_whatOf 68 = .ok (.iconst 2, 1) := by decide +kernel
theorem dX11_whatOf_69 : decode cX11_whatOf 69 = .ok (.iadd, 1) := by decide +kernel
theorem dX11_whatOf_70 : decode cX11_whatOf 70 = .ok (.iaload, 1) := by decide +kernel
theorem dX11_whatOf_71 : decode cX11_whatOf 71 = .ok (.invokestatic 61, 3) := by decide +kernel
theorem dX11_whatOf_74 : decode cX11_whatOf 74 = .ok (.aload_n 0, 1) := by decide +kernel
theorem dX11_whatOf_75 : decode cX11_whatOf 75 = .ok (.getfield 7, 3) := by decide +kernel
theorem dX11_whatOf_78 : decode cX11_whatOf 78 = .ok (.iload 5, 2) := by decide +kernel
theorem dX11_whatOf_80 : decode cX11_whatOf 80 = .ok (.iconst 3, 1) := by decide +kernel
theorem dX11_whatOf_81 : decode cX11_whatOf 81 = .ok (.iadd, 1) := by decide +kernel
theorem dX11_whatOf_82 : decode cX11_whatOf 82 = .ok (.iaload, 1) := by decide +kernel
theorem dX11_whatOf_83 : decode cX11_whatOf 83 = .ok (.if_icmp .eq 11, 3) := by decide +kernel
theorem dX11_whatOf_86 : decode cX11_whatOf 86 = .ok (.iload_n 2, 1) := by decide +kernel
theorem dX11_whatOf_87 : decode cX11_whatOf 87 = .ok (.iconst 1, 1) := by decide +kernel
theorem dX11_whatOf_88 : decode cX11_whatOf 88 = .ok (.iload_n 3, 1) := by decide +kernel
theorem dX11_whatOf_89 : decode cX11_whatOf 89 = .ok (.ishl, 1) := by decide +kernel
theorem dX11_whatOf_90 : decode cX11_whatOf 90 = .ok (.iconst (-1), 1) := by decide +kernel
theorem dX11_whatOf_91 : decode cX11_whatOf 91 = .ok (.ixor, 1) := by decide +kernel
theorem dX11_whatOf_92 : decode cX11_whatOf 92 = .ok (.iand, 1) := by decide +kernel
theorem dX11_whatOf_93 : decode cX11_whatOf 93 = .ok (.istore_n 2, 1) := by decide +kernel
theorem dX11_whatOf_94 : decode cX11_whatOf 94 = .ok (.iinc 4 1, 3) := by decide +kernel
theorem dX11_whatOf_97 : decode cX11_whatOf 97 = .ok (.goto (-83), 3) := by decide +kernel
theorem dX11_whatOf_100 : decode cX11_whatOf 100 = .ok (.iinc 3 1, 3) := by decide +kernel
theorem dX11_whatOf_103 : decode cX11_whatOf 103 = .ok (.goto (-98), 3) := by decide +kernel
theorem dX11_whatOf_106 : decode cX11_whatOf 106 = .ok (.iload_n 2, 1) := by decide +kernel
theorem dX11_whatOf_107 : decode cX11_whatOf 107 = .ok (.ireturn, 1) := by decide +kernel
def fX11_whatOf_94 (k5 : Nat → Int32 → Int32 → Int32 → gx_H → Option (Int32 × gx_H)) (k14 : Nat → Int32 → Int32 → Int32 → Int32 → gx_H → Option (Int32 × gx_H)) (v0 : Nat) (v1 : Int32) (v2 : Int32) (v3 : Int32) (v4 : Int32) (h : gx_H) : Option (Int32 × gx_H) :=
  k14 v0 v1 v2 v3 (v4 + (1 : Int32)) h
def bX11_whatOf_14 (k5 : Nat → Int32 → Int32 → Int32 → gx_H → Option (Int32 × gx_H)) (k14 : Nat → Int32 → Int32 → Int32 → Int32 → gx_H → Option (Int32 × gx_H)) (v0 : Nat) (v1 : Int32) (v2 : Int32) (v3 : Int32) (v4 : Int32) (h : gx_H) : Option (Int32 × gx_H) :=
  (gx_fR h v0 9 0).bind fun a1 =>
  (gx_aI 0 h a1 (65 : Int32)).bind fun x2 =>
  if x2 ≤ v4 then
    k5 v0 v1 v2 (v3 + (1 : Int32)) h
  else
    (gx_fR h v0 9 0).bind fun a3 =>
    (gx_aI 0 h a3 ((66 : Int32) + ((4 : Int32) * v4))).bind fun x4 =>
    if x4 = v1 then
      (gx_fR h v0 9 0).bind fun a5 =>
      (gx_aI 0 h a5 (0 : Int32)).bind fun x6 =>
      (gx_fR h v0 9 0).bind fun a7 =>
      (gx_aI 0 h a7 (((66 : Int32) + ((4 : Int32) * v4)) + (1 : Int32))).bind fun x8 =>
      (gx_fR h v0 9 0).bind fun a9 =>
      (gx_aI 0 h a9 (((66 : Int32) + ((4 : Int32) * v4)) + (2 : Int32))).bind fun x10 =>
      gx_bd (fX11_goesBy v3 x6 x8 x10 h) fun x12 h11 =>
      (gx_fR h11 v0 9 0).bind fun a13 =>
      (gx_aI 0 h11 a13 (((66 : Int32) + ((4 : Int32) * v4)) + (3 : Int32))).bind fun x14 =>
      if x12 = x14 then
        fX11_whatOf_94 k5 k14 v0 v1 v2 v3 v4 h11
      else
        fX11_whatOf_94 k5 k14 v0 v1 (v2 &&& (((1 : Int32) <<< (v3 &&& 31)) ^^^ (-1 : Int32))) v3 v4 h11
    else
      fX11_whatOf_94 k5 k14 v0 v1 v2 v3 v4 h
def fX11_whatOf_14 (k5 : Nat → Int32 → Int32 → Int32 → gx_H → Option (Int32 × gx_H)) : Nat → Nat → Int32 → Int32 → Int32 → Int32 → gx_H → Option (Int32 × gx_H)
  | 0 => fun _ _ _ _ _ _ => none
  | n + 1 => bX11_whatOf_14 k5 (fX11_whatOf_14 k5 n)
def bX11_whatOf_5 (k5 : Nat → Int32 → Int32 → Int32 → gx_H → Option (Int32 × gx_H)) (v0 : Nat) (v1 : Int32) (v2 : Int32) (v3 : Int32) (h : gx_H) : Option (Int32 × gx_H) :=
  if (6 : Int32) ≤ v3 then
    some (v2, h)
  else
    fX11_whatOf_14 k5 gx_N v0 v1 v2 v3 (0 : Int32) h
def fX11_whatOf_5 : Nat → Nat → Int32 → Int32 → Int32 → gx_H → Option (Int32 × gx_H)
  | 0 => fun _ _ _ _ _ => none
  | n + 1 => bX11_whatOf_5 (fX11_whatOf_5 n)
def fX11_whatOf (v0 : Nat) (v1 : Int32) (h : gx_H) : Option (Int32 × gx_H) :=
  (gx_isO h v0 9).bind fun _ =>
  fX11_whatOf_5 gx_N v0 v1 (63 : Int32) (0 : Int32) h
set_option maxRecDepth 100000 in
set_option maxHeartbeats 4000000 in
theorem gX11_whatOf_94 {E : gx_Env} {d : Nat} (k5 : Nat → Int32 → Int32 → Int32 → gx_H → Option (Int32 × gx_H)) (hk5 : ∀ (v0 : Nat) (v1 : Int32) (v2 : Int32) (v3 : Int32) (h : gx_H), gx_G E RX11 cX11_whatOf 6 (some .int) false (d + 3) 0 0 5 [some (.ref v0), some (.int v1), some (.int v2), some (.int v3), none, none] [] h (fun x : Int32 => some (.int x)) (k5 v0 v1 v2 v3 h))  (k14 : Nat → Int32 → Int32 → Int32 → Int32 → gx_H → Option (Int32 × gx_H)) (hk14 : ∀ (v0 : Nat) (v1 : Int32) (v2 : Int32) (v3 : Int32) (v4 : Int32) (h : gx_H), gx_G E RX11 cX11_whatOf 6 (some .int) false (d + 3) 0 0 14 [some (.ref v0), some (.int v1), some (.int v2), some (.int v3), some (.int v4), none] [] h (fun x : Int32 => some (.int x)) (k14 v0 v1 v2 v3 v4 h))  : ∀ (v0 : Nat) (v1 : Int32) (v2 : Int32) (v3 : Int32) (v4 : Int32) (h : gx_H), gx_G E RX11 cX11_whatOf 6 (some .int) false (d + 3) 0 0 94 [some (.ref v0), some (.int v1), some (.int v2), some (.int v3), some (.int v4), none] [] h (fun x : Int32 => some (.int x)) (fX11_whatOf_94 k5 k14 v0 v1 v2 v3 v4 h) := by
  intro v0 v1 v2 v3 v4 h
  unfold fX11_whatOf_94
  refine gx_iinc (1 : Int32) [some (.ref v0), some (.int v1), some (.int v2), some (.int v3), some (.int (v4 + (1 : Int32))), none] dX11_whatOf_94 rfl (by decide) (by decide) rfl ?_
  refine gx_goto 14 dX11_whatOf_97 (by decide) ?_
  exact gx_sub (hk14 v0 v1 v2 v3 (v4 + (1 : Int32)) h) (And.intro rfl (And.intro rfl (And.intro rfl (And.intro rfl (And.intro rfl True.intro)))))
set_option maxRecDepth 100000 in
set_option maxHeartbeats 4000000 in
theorem gbX11_whatOf_14 {E : gx_Env} {d : Nat} (k5 : Nat → Int32 → Int32 → Int32 → gx_H → Option (Int32 × gx_H)) (hk5 : ∀ (v0 : Nat) (v1 : Int32) (v2 : Int32) (v3 : Int32) (h : gx_H), gx_G E RX11 cX11_whatOf 6 (some .int) false (d + 3) 0 0 5 [some (.ref v0), some (.int v1), some (.int v2), some (.int v3), none, none] [] h (fun x : Int32 => some (.int x)) (k5 v0 v1 v2 v3 h))  (k14 : Nat → Int32 → Int32 → Int32 → Int32 → gx_H → Option (Int32 × gx_H)) (hk14 : ∀ (v0 : Nat) (v1 : Int32) (v2 : Int32) (v3 : Int32) (v4 : Int32) (h : gx_H), gx_G E RX11 cX11_whatOf 6 (some .int) false (d + 3) 0 0 14 [some (.ref v0), some (.int v1), some (.int v2), some (.int v3), some (.int v4), none] [] h (fun x : Int32 => some (.int x)) (k14 v0 v1 v2 v3 v4 h))  : ∀ (v0 : Nat) (v1 : Int32) (v2 : Int32) (v3 : Int32) (v4 : Int32) (h : gx_H), gx_G E RX11 cX11_whatOf 6 (some .int) false (d + 3) 0 0 14 [some (.ref v0), some (.int v1), some (.int v2), some (.int v3), some (.int v4), none] [] h (fun x : Int32 => some (.int x)) (bX11_whatOf_14 k5 k14 v0 v1 v2 v3 v4 h) := by
  intro v0 v1 v2 v3 v4 h
  unfold bX11_whatOf_14
  refine gx_iload dX11_whatOf_14 rfl ?_
  refine gx_aload_n 0 dX11_whatOf_16 rfl rfl ?_
  refine gx_getR kf_RX11_7 dX11_whatOf_17 (fun a1 => ?_)
  refine gx_bipush (65 : Int32) dX11_whatOf_20 (by decide) ?_
  refine gx_iald dX11_whatOf_22 (fun x2 => ?_)
  refine gx_icmp_ge 100 dX11_whatOf_23 (by decide) (fun _ => ?_) (fun _ => ?_)
  · refine gx_iinc (1 : Int32) [some (.ref v0), some (.int v1), some (.int v2), some (.int (v3 + (1 : Int32))), some (.int v4), none] dX11_whatOf_100 rfl (by decide) (by decide) rfl ?_
    refine gx_goto 5 dX11_whatOf_103 (by decide) ?_
    exact gx_sub (hk5 v0 v1 v2 (v3 + (1 : Int32)) h) (And.intro rfl (And.intro rfl (And.intro rfl (And.intro rfl True.intro))))
  · refine gx_bipush (66 : Int32) dX11_whatOf_26 (by decide) ?_
    refine gx_iconst (4 : Int32) dX11_whatOf_28 (by decide) ?_
    refine gx_iload dX11_whatOf_29 rfl ?_
    refine gx_imul dX11_whatOf_31 ?_
    refine gx_iadd dX11_whatOf_32 ?_
    refine gx_istore [some (.ref v0), some (.int v1), some (.int v2), some (.int v3), some (.int v4), some (.int ((66 : Int32) + ((4 : Int32) * v4)))] dX11_whatOf_33 (by decide) rfl ?_
    refine gx_aload_n 0 dX11_whatOf_35 rfl rfl ?_
    refine gx_getR kf_RX11_7 dX11_whatOf_36 (fun a3 => ?_)
    refine gx_iload dX11_whatOf_39 rfl ?_
    refine gx_iald dX11_whatOf_41 (fun x4 => ?_)
    refine gx_iload_n 1 dX11_whatOf_42 rfl rfl ?_
    refine gx_icmp_ne 94 dX11_whatOf_43 (by decide) (fun _ => ?_) (fun _ => ?_)
    · exact gx_sub (gX11_whatOf_94 k5 hk5 k14 hk14 v0 v1 v2 v3 v4 h) (And.intro rfl (And.intro rfl (And.intro rfl (And.intro rfl (And.intro rfl True.intro)))))
    · refine gx_iload_n 3 dX11_whatOf_46 rfl rfl ?_
      refine gx_aload_n 0 dX11_whatOf_47 rfl rfl ?_
      refine gx_getR kf_RX11_7 dX11_whatOf_48 (fun a5 => ?_)
      refine gx_iconst (0 : Int32) dX11_whatOf_51 (by decide) ?_
      refine gx_iald dX11_whatOf_52 (fun x6 => ?_)
      refine gx_aload_n 0 dX11_whatOf_53 rfl rfl ?_
      refine gx_getR kf_RX11_7 dX11_whatOf_54 (fun a7 => ?_)
      refine gx_iload dX11_whatOf_57 rfl ?_
      refine gx_iconst (1 : Int32) dX11_whatOf_59 (by decide) ?_
      refine gx_iadd dX11_whatOf_60 ?_
      refine gx_iald dX11_whatOf_61 (fun x8 => ?_)
      refine gx_aload_n 0 dX11_whatOf_62 rfl rfl ?_
      refine gx_getR kf_RX11_7 dX11_whatOf_63 (fun a9 => ?_)
      refine gx_iload dX11_whatOf_66 rfl ?_
      refine gx_iconst (2 : Int32) dX11_whatOf_68 (by decide) ?_
      refine gx_iadd dX11_whatOf_69 ?_
      refine gx_iald dX11_whatOf_70 (fun x10 => ?_)
      refine gx_callS (bc := 0) (bs := 0) (mc := 0) (ms := 0) (em' := (fun x : Int32 => some (.int x))) [.int v3, .int x6, .int x8, .int x10] kc_RX11_61 dX11_whatOf_71 rfl rfl (gx_w8 rfl) (fun _ _ q => okX11_goesBy d q) (fun x12 h11 => ?_)
      refine gx_aload_n 0 dX11_whatOf_74 rfl rfl ?_
      refine gx_getR kf_RX11_7 dX11_whatOf_75 (fun a13 => ?_)
      refine gx_iload dX11_whatOf_78 rfl ?_
      refine gx_iconst (3 : Int32) dX11_whatOf_80 (by decide) ?_
      refine gx_iadd dX11_whatOf_81 ?_
      refine gx_iald dX11_whatOf_82 (fun x14 => ?_)
      refine gx_icmp_eq 94 dX11_whatOf_83 (by decide) (fun _ => ?_) (fun _ => ?_)
      · exact gx_sub (gX11_whatOf_94 k5 hk5 k14 hk14 v0 v1 v2 v3 v4 h11) (And.intro rfl (And.intro rfl (And.intro rfl (And.intro rfl (And.intro rfl True.intro)))))
      · refine gx_iload_n 2 dX11_whatOf_86 rfl rfl ?_
        refine gx_iconst (1 : Int32) dX11_whatOf_87 (by decide) ?_
        refine gx_iload_n 3 dX11_whatOf_88 rfl rfl ?_
        refine gx_ishl dX11_whatOf_89 ?_
        refine gx_iconst (-1 : Int32) dX11_whatOf_90 (by decide) ?_
        refine gx_ixor dX11_whatOf_91 ?_
        refine gx_iand dX11_whatOf_92 ?_
        refine gx_istore_n 2 [some (.ref v0), some (.int v1), some (.int (v2 &&& (((1 : Int32) <<< (v3 &&& 31)) ^^^ (-1 : Int32)))), some (.int v3), some (.int v4), some (.int ((66 : Int32) + ((4 : Int32) * v4)))] dX11_whatOf_93 rfl (by decide) rfl ?_
        exact gx_sub (gX11_whatOf_94 k5 hk5 k14 hk14 v0 v1 (v2 &&& (((1 : Int32) <<< (v3 &&& 31)) ^^^ (-1 : Int32))) v3 v4 h11) (And.intro rfl (And.intro rfl (And.intro rfl (And.intro rfl (And.intro rfl True.intro)))))
set_option maxRecDepth 100000 in
set_option maxHeartbeats 4000000 in
theorem gX11_whatOf_14 {E : gx_Env} {d : Nat} (k5 : Nat → Int32 → Int32 → Int32 → gx_H → Option (Int32 × gx_H)) (hk5 : ∀ (v0 : Nat) (v1 : Int32) (v2 : Int32) (v3 : Int32) (h : gx_H), gx_G E RX11 cX11_whatOf 6 (some .int) false (d + 3) 0 0 5 [some (.ref v0), some (.int v1), some (.int v2), some (.int v3), none, none] [] h (fun x : Int32 => some (.int x)) (k5 v0 v1 v2 v3 h))  : ∀ (n : Nat) (v0 : Nat) (v1 : Int32) (v2 : Int32) (v3 : Int32) (v4 : Int32) (h : gx_H), gx_G E RX11 cX11_whatOf 6 (some .int) false (d + 3) 0 0 14 [some (.ref v0), some (.int v1), some (.int v2), some (.int v3), some (.int v4), none] [] h (fun x : Int32 => some (.int x)) (fX11_whatOf_14 k5 n v0 v1 v2 v3 v4 h) := by
  intro n
  induction n with
  | zero => intro v0 v1 v2 v3 v4 h; exact gx_none
  | succ n ih => exact gbX11_whatOf_14 k5 hk5 (fX11_whatOf_14 k5 n) ih
set_option maxRecDepth 100000 in
set_option maxHeartbeats 4000000 in
theorem gbX11_whatOf_5 {E : gx_Env} {d : Nat}  (k5 : Nat → Int32 → Int32 → Int32 → gx_H → Option (Int32 × gx_H)) (hk5 : ∀ (v0 : Nat) (v1 : Int32) (v2 : Int32) (v3 : Int32) (h : gx_H), gx_G E RX11 cX11_whatOf 6 (some .int) false (d + 3) 0 0 5 [some (.ref v0), some (.int v1), some (.int v2), some (.int v3), none, none] [] h (fun x : Int32 => some (.int x)) (k5 v0 v1 v2 v3 h))  : ∀ (v0 : Nat) (v1 : Int32) (v2 : Int32) (v3 : Int32) (h : gx_H), gx_G E RX11 cX11_whatOf 6 (some .int) false (d + 3) 0 0 5 [some (.ref v0), some (.int v1), some (.int v2), some (.int v3), none, none] [] h (fun x : Int32 => some (.int x)) (bX11_whatOf_5 k5 v0 v1 v2 v3 h) := by
  intro v0 v1 v2 v3 h
  unfold bX11_whatOf_5
  refine gx_iload_n 3 dX11_whatOf_5 rfl rfl ?_
  refine gx_bipush (6 : Int32) dX11_whatOf_6 (by decide) ?_
  refine gx_icmp_ge 106 dX11_whatOf_8 (by decide) (fun _ => ?_) (fun _ => ?_)
  · refine gx_iload_n 2 dX11_whatOf_106 rfl rfl ?_
    exact gx_iret dX11_whatOf_107 rfl
  · refine gx_iconst (0 : Int32) dX11_whatOf_11 (by decide) ?_
    refine gx_istore [some (.ref v0), some (.int v1), some (.int v2), some (.int v3), some (.int (0 : Int32)), none] dX11_whatOf_12 (by decide) rfl ?_
    exact gx_sub (gX11_whatOf_14 k5 hk5 gx_N v0 v1 v2 v3 (0 : Int32) h) (And.intro rfl (And.intro rfl (And.intro rfl (And.intro rfl (And.intro rfl True.intro)))))
set_option maxRecDepth 100000 in
set_option maxHeartbeats 4000000 in
theorem gX11_whatOf_5 {E : gx_Env} {d : Nat}  : ∀ (n : Nat) (v0 : Nat) (v1 : Int32) (v2 : Int32) (v3 : Int32) (h : gx_H), gx_G E RX11 cX11_whatOf 6 (some .int) false (d + 3) 0 0 5 [some (.ref v0), some (.int v1), some (.int v2), some (.int v3), none, none] [] h (fun x : Int32 => some (.int x)) (fX11_whatOf_5 n v0 v1 v2 v3 h) := by
  intro n
  induction n with
  | zero => intro v0 v1 v2 v3 h; exact gx_none
  | succ n ih => exact gbX11_whatOf_5  (fX11_whatOf_5  n) ih
set_option maxRecDepth 100000 in
set_option maxHeartbeats 4000000 in
theorem geX11_whatOf {E : gx_Env} {d : Nat} (v0 : Nat) (v1 : Int32) (h : gx_H) : gx_G E RX11 cX11_whatOf 6 (some .int) false (d + 3) 0 0 0 [some (.ref v0), some (.int v1), none, none, none, none] [] h (fun x : Int32 => some (.int x)) (fX11_whatOf v0 v1 h) := by
  unfold fX11_whatOf
  refine gx_bind fun _ _ => ?_
  refine gx_bipush (63 : Int32) dX11_whatOf_0 (by decide) ?_
  refine gx_istore_n 2 [some (.ref v0), some (.int v1), some (.int (63 : Int32)), none, none, none] dX11_whatOf_2 rfl (by decide) rfl ?_
  refine gx_iconst (0 : Int32) dX11_whatOf_3 (by decide) ?_
  refine gx_istore_n 3 [some (.ref v0), some (.int v1), some (.int (63 : Int32)), some (.int (0 : Int32)), none, none] dX11_whatOf_4 rfl (by decide) rfl ?_
  exact gx_sub (gX11_whatOf_5 gx_N v0 v1 (63 : Int32) (0 : Int32) h) (And.intro rfl (And.intro rfl (And.intro rfl (And.intro rfl True.intro))))
theorem okX11_whatOf {E : gx_Env} (d : Nat) {v0 : Nat} {v1 : Int32} {h : gx_H} {r : Int32} {h1 : gx_H} (q : fX11_whatOf v0 v1 h = some (r, h1)) : gx_M E yX11_whatOf cX11_whatOf 6 (some .int) (d + 3) 0 0 [.ref v0, .int v1] h ((fun x : Int32 => some (.int x)) r) h1 := gx_meth (y := yX11_whatOf) (cc := cX11_whatOf) (nL := 6) (em := (fun x : Int32 => some (.int x))) (ini := false) [.ref v0, .int v1] (by decide) (by simp [gx_sl]) (fun q => by cases q) (geX11_whatOf v0 v1 h) q
theorem dX11_kinds_0 : decode cX11_kinds 0 = .ok (.aload_n 0, 1) := by decide +kernel
theorem dX11_kinds_1 : decode cX11_kinds 1 = .ok (.iload_n 1, 1) := by decide +kernel
theorem dX11_kinds_2 : decode cX11_kinds 2 = .ok (.invokevirtual 185, 3) := by decide +kernel
theorem dX11_kinds_5 : decode cX11_kinds 5 = .ok (.ifCond .eq 11, 3) := by decide +kernel
theorem dX11_kinds_8 : decode cX11_kinds 8 = .ok (.aload_n 0, 1) := by decide +kernel
theorem dX11_kinds_9 : decode cX11_kinds 9 = .ok (.iload_n 1, 1) := by decide +kernel
theorem dX11_kinds_10 : decode cX11_kinds 10 = .ok (.invokevirtual 236, 3) := by decide +kernel
theorem dX11_kinds_13 : decode cX11_kinds 13 = .ok (.goto 9, 3) := by decide +kernel
theorem dX11_kinds_16 : decode cX11_kinds 16 = .ok (.aload_n 0, 1) := by decide +kernel
theorem dX11_kinds_17 : decode cX11_kinds 17 = .ok (.bipush (-2), 2) := by decide +kernel
theorem dX11_kinds_19 : decode cX11_kinds 19 = .ok (.invokevirtual 81, 3) := by decide +kernel
theorem dX11_kinds_22 : decode cX11_kinds 22 = .ok (.ireturn, 1) := by decide +kernel
def fX11_kinds_22 (s0 : Int32) (h : gx_H) : Option (Int32 × gx_H) :=
  some (s0, h)
def fX11_kinds (v0 : Nat) (v1 : Int32) (h : gx_H) : Option (Int32 × gx_H) :=
  (gx_isO h v0 9).bind fun _ =>
  gx_bd (fX11_isPlayer v0 v1 h) fun x2 h1 =>
  if x2 = 0 then
    gx_bd (fX11_bad v0 (-2 : Int32) h1) fun x4 h3 =>
    fX11_kinds_22 x4 h3
  else
    gx_bd (fX11_whatOf v0 v1 h1) fun x6 h5 =>
    fX11_kinds_22 x6 h5
set_option maxRecDepth 100000 in
set_option maxHeartbeats 4000000 in
theorem gX11_kinds_22 {E : gx_Env} {d : Nat}  : ∀ (s0 : Int32) (h : gx_H), gx_G E RX11 cX11_kinds 2 (some .int) false (d + 4) 0 0 22 [none, none] [.int s0] h (fun x : Int32 => some (.int x)) (fX11_kinds_22 s0 h) := by
  intro s0 h
  unfold fX11_kinds_22
  exact gx_iret dX11_kinds_22 rfl
set_option maxRecDepth 100000 in
set_option maxHeartbeats 4000000 in
theorem geX11_kinds {E : gx_Env} {d : Nat} (v0 : Nat) (v1 : Int32) (h : gx_H) : gx_G E RX11 cX11_kinds 2 (some .int) false (d + 4) 0 0 0 [some (.ref v0), some (.int v1)] [] h (fun x : Int32 => some (.int x)) (fX11_kinds v0 v1 h) := by
  unfold fX11_kinds
  refine gx_bind fun _ _ => ?_
  refine gx_aload_n 0 dX11_kinds_0 rfl rfl ?_
  refine gx_iload_n 1 dX11_kinds_1 rfl rfl ?_
  refine gx_callV (ci := 9) (bc := 0) (bs := 0) (mc := 0) (ms := 0) (em' := (fun x : Int32 => some (.int x))) [.int v1] kc_RX11_185 rfl dX11_kinds_2 rfl rfl (gx_w8 rfl) (fun x q => (gx_isO_of (by unfold fX11_isPlayer at q; exact q)).2) (fun _ _ q => okX11_isPlayer (d + 2) q) (fun x2 h1 => ?_)
  refine gx_if_eq 16 dX11_kinds_5 (by decide) (fun _ => ?_) (fun _ => ?_)
  · refine gx_aload_n 0 dX11_kinds_16 rfl rfl ?_
    refine gx_bipush (-2 : Int32) dX11_kinds_17 (by decide) ?_
    refine gx_callV (ci := 9) (bc := 0) (bs := 0) (mc := 0) (ms := 0) (em' := (fun x : Int32 => some (.int x))) [.int (-2 : Int32)] kc_RX11_81 rfl dX11_kinds_19 rfl rfl (gx_w8 rfl) (fun x q => (gx_isO_of (by unfold fX11_bad at q; exact q)).2) (fun _ _ q => okX11_bad (d + 3) q) (fun x4 h3 => ?_)
    exact gx_sub (gX11_kinds_22 x4 h3) True.intro
  · refine gx_aload_n 0 dX11_kinds_8 rfl rfl ?_
    refine gx_iload_n 1 dX11_kinds_9 rfl rfl ?_
    refine gx_callV (ci := 9) (bc := 0) (bs := 0) (mc := 0) (ms := 0) (em' := (fun x : Int32 => some (.int x))) [.int v1] kc_RX11_236 rfl dX11_kinds_10 rfl rfl (gx_w8 rfl) (fun x q => (gx_isO_of (by unfold fX11_whatOf at q; exact q)).2) (fun _ _ q => okX11_whatOf d q) (fun x6 h5 => ?_)
    refine gx_goto 22 dX11_kinds_13 (by decide) ?_
    exact gx_sub (gX11_kinds_22 x6 h5) True.intro
theorem okX11_kinds {E : gx_Env} (d : Nat) {v0 : Nat} {v1 : Int32} {h : gx_H} {r : Int32} {h1 : gx_H} (q : fX11_kinds v0 v1 h = some (r, h1)) : gx_M E yX11_kinds cX11_kinds 2 (some .int) (d + 4) 0 0 [.ref v0, .int v1] h ((fun x : Int32 => some (.int x)) r) h1 := gx_meth (y := yX11_kinds) (cc := cX11_kinds) (nL := 2) (em := (fun x : Int32 => some (.int x))) (ini := false) [.ref v0, .int v1] (by decide) (by simp [gx_sl]) (fun q => by cases q) (geX11_kinds v0 v1 h) q
theorem dX11_ask_0 : decode cX11_ask 0 = .ok (.aload_n 0, 1) := by decide +kernel
theorem dX11_ask_1 : decode cX11_ask 1 = .ok (.iload_n 1, 1) := by decide +kernel
theorem dX11_ask_2 : decode cX11_ask 2 = .ok (.invokevirtual 185, 3) := by decide +kernel
theorem dX11_ask_5 : decode cX11_ask 5 = .ok (.ifCond .ne 10, 3) := by decide +kernel
theorem dX11_ask_8 : decode cX11_ask 8 = .ok (.aload_n 0, 1) := by decide +kernel
theorem dX11_ask_9 : decode cX11_ask 9 = .ok (.bipush (-2), 2) := by decide +kernel
theorem dX11_ask_11 : decode cX11_ask 11 = .ok (.invokevirtual 81, 3) := by decide +kernel
theorem dX11_ask_14 : decode cX11_ask 14 = .ok (.ireturn, 1) := by decide +kernel
theorem dX11_ask_15 : decode cX11_ask 15 = .ok (.aload_n 0, 1) := by decide +kernel
theorem dX11_ask_16 : decode cX11_ask 16 = .ok (.iload_n 1, 1) := by decide +kernel
theorem dX11_ask_17 : decode cX11_ask 17 = .ok (.invokevirtual 236, 3) := by decide +kernel
theorem dX11_ask_20 : decode cX11_ask 20 = .ok (.istore_n 2, 1) := by decide +kernel
theorem dX11_ask_21 : decode cX11_ask 21 = .ok (.iconst (-1), 1) := by decide +kernel
theorem dX11_ask_22 : decode cX11_ask 22 = .ok (.istore_n 3, 1) := by decide +kernel
theorem dX11_ask_23 : decode cX11_ask 23 = .ok (.ldc 232, 2) := by decide +kernel
theorem dX11_ask_25 : decode cX11_ask 25 = .ok (.istore 4, 2) := by decide +kernel
theorem dX11_ask_27 : decode cX11_ask 27 = .ok (.iconst 0, 1) := by decide +kernel
theorem dX11_ask_28 : decode cX11_ask 28 = .ok (.istore 5, 2) := by decide +kernel
theorem dX11_ask_30 : decode cX11_ask 30 = .ok (.iload 5, 2) := by decide +kernel
theorem dX11_ask_32 : decode cX11_ask 32 = .ok (.aload_n 0, 1) := by decide +kernel
theorem dX11_ask_33 : decode cX11_ask 33 = .ok (.getfield 7, 3) := by decide +kernel
theorem dX11_ask_36 : decode cX11_ask 36 = .ok (.iconst 0, 1) := by decide +kernel
theorem dX11_ask_37 : decode cX11_ask 37 = .ok (.iaload, 1) := by decide +kernel
theorem dX11_ask_38 : decode cX11_ask 38 = .ok (.if_icmp .ge 176, 3) := by decide +kernel
theorem dX11_ask_41 : decode cX11_ask 41 = .ok (.iconst 1, 1) := by decide +kernel
theorem dX11_ask_42 : decode cX11_ask 42 = .ok (.istore 6, 2) := by decide +kernel
theorem dX11_ask_44 : decode cX11_ask 44 = .ok (.iload 6, 2) := by decide +kernel
theorem dX11_ask_46 : decode cX11_ask 46 = .ok (.bipush 6, 2) := by decide +kernel
theorem dX11_ask_48 : decode cX11_ask 48 = .ok (.if_icmp .gt 160, 3) := by decide +kernel
theorem dX11_ask_51 : decode cX11_ask 51 = .ok (.iconst 0, 1) := by decide +kernel
theorem dX11_ask_52 : decode cX11_ask 52 = .ok (.istore 7, 2) := by decide +kernel
theorem dX11_ask_54 : decode cX11_ask 54 = .ok (.iconst 0, 1) := by decide +kernel
theorem dX11_ask_55 : decode cX11_ask 55 = .ok (.istore 8, 2) := by decide +kernel
theorem dX11_ask_57 : decode cX11_ask 57 = .ok (.iload 8, 2) := by decide +kernel
theorem dX11_ask_59 : decode cX11_ask 59 = .ok (.bipush 6, 2) := by decide +kernel
theorem dX11_ask_61 : decode cX11_ask 61 = .ok (.if_icmp .ge 105, 3) := by decide +kernel
theorem dX11_ask_64 : decode cX11_ask 64 = .ok (.iconst 0, 1) := by decide +kernel
theorem dX11_ask_65 : decode cX11_ask 65 = .ok (.istore 9, 2) := by decide +kernel
theorem dX11_ask_67 : decode cX11_ask 67 = .ok (.iconst 0, 1) := by decide +kernel
theorem dX11_ask_68 : decode cX11_ask 68 = .ok (.istore 10, 2) := by decide +kernel
theorem dX11_ask_70 : decode cX11_ask 70 = .ok (.iload 10, 2) := by decide +kernel
theorem dX11_ask_72 : decode cX11_ask 72 = .ok (.bipush 6, 2) := by decide +kernel
theorem dX11_ask_74 : decode cX11_ask 74 = .ok (.if_icmp .ge 70, 3) := by decide +kernel
theorem dX11_ask_77 : decode cX11_ask 77 = .ok (.iload 9, 2) := by decide +kernel
theorem dX11_ask_79 : decode cX11_ask 79 = .ok (.iload_n 2, 1) := by decide +kernel
theorem dX11_ask_80 : decode cX11_ask 80 = .ok (.iload 8, 2) := by decide +kernel
theorem dX11_ask_82 : decode cX11_ask 82 = .ok (.invokestatic 233, 3) := by decide +kernel
theorem dX11_ask_85 : decode cX11_ask 85 = .ok (.ifCond .eq 49, 3) := by decide +kernel
theorem dX11_ask_88 : decode cX11_ask 88 = .ok (.iload_n 2, 1) := by decide +kernel
theorem dX11_ask_89 : decode cX11_ask 89 = .ok (.iload 10, 2) := by decide +kernel
theorem dX11_ask_91 : decode cX11_ask 91 = .ok (.invokestatic 233, 3) := by decide +kernel
theorem dX11_ask_94 : decode cX11_ask 94 = .ok (.ifCond .eq 40, 3) := by decide +kernel
theorem dX11_ask_97 : decode cX11_ask 97 = .ok (.iload 8, 2) := by decide +kernel
theorem dX11_ask_99 : decode cX11_ask 99 = .ok (.aload_n 0, 1) := by decide +kernel
theorem dX11_ask_100 : decode cX11_ask 100 = .ok (.getfield 7, 3) := by decide +kernel
theorem dX11_ask_103 : decode cX11_ask 103 = .ok (.iconst 0, 1) := by decide +kernel
theorem dX11_ask_104 : decode cX11_ask 104 = .ok (.iaload, 1) := by decide +kernel
theorem dX11_ask_105 : decode cX11_ask 105 = .ok (.iload 5, 2) := by decide +kernel
theorem dX11_ask_107 : decode cX11_ask 107 = .ok (.iload 6, 2) := by decide +kernel
theorem dX11_ask_109 : decode cX11_ask 109 = .ok (.invokestatic 61, 3) := by decide +kernel
theorem dX11_ask_112 : decode cX11_ask 112 = .ok (.iload 10, 2) := by decide +kernel
theorem dX11_ask_114 : decode cX11_ask 114 = .ok (.aload_n 0, 1) := by decide +kernel
theorem dX11_ask_115 : decode cX11_ask 115 = .ok (.getfield 7, 3) := by decide +kernel
theorem dX11_ask_118 : decode cX11_ask 118 = .ok (.iconst 0, 1) := by decide +kernel
theorem dX11_ask_119 : decode cX11_ask 119 = .ok (.iaload, 1) := by decide +kernel
theorem dX11_ask_120 : decode cX11_ask 120 = .ok (.iload 5, 2) := by decide +kernel
theorem dX11_ask_122 : decode cX11_ask 122 = .ok (.iload 6, 2) := by decide +kernel
theorem dX11_ask_124 : decode cX11_ask 124 = .ok (.invokestatic 61, 3) := by decide +kernel
theorem dX11_ask_127 : decode cX11_ask 127 = .ok (.if_icmp .ne 7, 3) := by decide +kernel
theorem dX11_ask_130 : decode cX11_ask 130 = .ok (.iconst 1, 1) := by decide +kernel
theorem dX11_ask_131 : decode cX11_ask 131 = .ok (.goto 4, 3) := by decide +kernel
theorem dX11_ask_134 : decode cX11_ask 134 = .ok (.iconst 0, 1) := by decide +kernel
theorem dX11_ask_135 : decode cX11_ask 135 = .ok (.iadd, 1) := by decide +kernel
theorem dX11_ask_136 : decode cX11_ask 136 = .ok (.istore 9, 2) := by decide +kernel
theorem dX11_ask_138 : decode cX11_ask 138 = .ok (.iinc 10 1, 3) := by decide +kernel
theorem dX11_ask_141 : decode cX11_ask 141 = .ok (.goto (-71), 3) := by decide +kernel
theorem dX11_ask_144 : decode cX11_ask 144 = .ok (.iload 9, 2) := by decide +kernel
theorem dX11_ask_146 : decode cX11_ask 146 = .ok (.iload 7, 2) := by decide +kernel
theorem dX11_ask_148 : decode cX11_ask 148 = .ok (.if_icmp .le 8, 3) := by decide +kernel
theorem dX11_ask_151 : decode cX11_ask 151 = .ok (.iload 9, 2) := by decide +kernel
theorem dX11_ask_153 : decode cX11_ask 153 = .ok (.goto 5, 3) := by decide +kernel
theorem dX11_ask_156 : decode cX11_ask 156 = .ok (.iload 7, 2) := by decide +kernel
theorem dX11_ask_158 : decode cX11_ask 158 = .ok (.istore 7, 2) := by decide +kernel
theorem dX11_ask_160 : decode cX11_ask 160 = .ok (.iinc 8 1, 3) := by decide +kernel
theorem dX11_ask_163 : decode cX11_ask 163 = .ok (.goto (-106), 3) := by decide +kernel
theorem dX11_ask_166 : decode cX11_ask 166 = .ok (.iload 7, 2) := by decide +kernel
theorem dX11_ask_168 : decode cX11_ask 168 = .ok (.iload 4, 2) := by decide +kernel
theorem dX11_ask_170 : decode cX11_ask 170 = .ok (.if_icmp .ge 14, 3) := by decide +kernel
theorem dX11_ask_173 : decode cX11_ask 173 = .ok (.bipush 100, 2) := by decide +kernel
theorem dX11_ask_175 : decode cX11_ask 175 = .ok (.iload 5, 2) := by decide +kernel
theorem dX11_ask_177 : decode cX11_ask 177 = .ok (.imul, 1) := by decide +kernel
theorem dX11_ask_178 : decode cX11_ask 178 = .ok (.iload 6, 2) := by decide +kernel
theorem dX11_ask_180 : decode cX11_ask 180 = .ok (.iadd, 1) := by decide +kernel
theorem dX11_ask_181 : decode cX11_ask 181 = .ok (.goto 4, 3) := by decide +kernel
theorem dX11_ask_184 : decode cX11_ask 184 = .ok (.iload_n 3, 1) := by decide +kernel
theorem dX11_ask_185 : decode cX11_ask 185 = .ok (.istore_n 3, 1) := by decide +kernel
theorem dX11_ask_186 : decode cX11_ask 186 = .ok (.iload 7, 2) := by decide +kernel
theorem dX11_ask_188 : decode cX11_ask 188 = .ok (.iload 4, 2) := by decide +kernel
theorem dX11_ask_190 : decode cX11_ask 190 = .ok (.if_icmp .ge 8, 3) := by decide +kernel
theorem dX11_ask_193 : decode cX11_ask 193 = .ok (.iload 7, 2) := by decide +kernel
theorem dX11_ask_195 : decode cX11_ask 195 = .ok (.goto 5, 3) := by decide +kernel
theorem dX11_ask_198 : decode cX11_ask 198 = .ok (.iload 4, 2) := by decide +kernel
theorem dX11_ask_200 : decode cX11_ask 200 = .ok (.istore 4, 2) := by decide +kernel
theorem dX11_ask_202 : decode cX11_ask 202 = .ok (.iinc 6 1, 3) := by decide +kernel
theorem dX11_ask_205 : decode cX11_ask 205 = .ok (.goto (-161), 3) := by decide +kernel
theorem dX11_ask_208 : decode cX11_ask 208 = .ok (.iinc 5 1, 3) := by decide +kernel
theorem dX11_ask_211 : decode cX11_ask 211 = .ok (.goto (-181), 3) := by decide +kernel
theorem dX11_ask_214 : decode cX11_ask 214 = .ok (.iload_n 2, 1) := by decide +kernel
theorem dX11_ask_215 : decode cX11_ask 215 = .ok (.ifCond .ne 7, 3) := by decide +kernel
theorem dX11_ask_218 : decode cX11_ask 218 = .ok (.iconst (-1), 1) := by decide +kernel
theorem dX11_ask_219 : decode cX11_ask 219 = .ok (.goto 4, 3) := by decide +kernel
theorem dX11_ask_222 : decode cX11_ask 222 = .ok (.iload_n 3, 1) := by decide +kernel
theorem dX11_ask_223 : decode cX11_ask 223 = .ok (.ireturn, 1) := by decide +kernel
def fX11_ask_135 (k30 : Nat → Int32 → Int32 → Int32 → Int32 → gx_H → Option (Int32 × gx_H)) (k44 : Nat → Int32 → Int32 → Int32 → Int32 → Int32 → gx_H → Option (Int32 × gx_H)) (k57 : Nat → Int32 → Int32 → Int32 → Int32 → Int32 → Int32 → Int32 → gx_H → Option (Int32 × gx_H)) (k70 : Nat → Int32 → Int32 → Int32 → Int32 → Int32 → Int32 → Int32 → Int32 → Int32 → gx_H → Option (Int32 × gx_H)) (v0 : Nat) (v2 : Int32) (v3 : Int32) (v4 : Int32) (v5 : Int32) (v6 : Int32) (v7 : Int32) (v8 : Int32) (v10 : Int32) (s0 : Int32) (s1 : Int32) (h : gx_H) : Option (Int32 × gx_H) :=
  k70 v0 v2 v3 v4 v5 v6 v7 v8 (s0 + s1) (v10 + (1 : Int32)) h
def fX11_ask_134 (k30 : Nat → Int32 → Int32 → Int32 → Int32 → gx_H → Option (Int32 × gx_H)) (k44 : Nat → Int32 → Int32 → Int32 → Int32 → Int32 → gx_H → Option (Int32 × gx_H)) (k57 : Nat → Int32 → Int32 → Int32 → Int32 → Int32 → Int32 → Int32 → gx_H → Option (Int32 × gx_H)) (k70 : Nat → Int32 → Int32 → Int32 → Int32 → Int32 → Int32 → Int32 → Int32 → Int32 → gx_H → Option (Int32 × gx_H)) (v0 : Nat) (v2 : Int32) (v3 : Int32) (v4 : Int32) (v5 : Int32) (v6 : Int32) (v7 : Int32) (v8 : Int32) (v10 : Int32) (s0 : Int32) (h : gx_H) : Option (Int32 × gx_H) :=
  fX11_ask_135 k30 k44 k57 k70 v0 v2 v3 v4 v5 v6 v7 v8 v10 s0 (0 : Int32) h
def fX11_ask_158 (k30 : Nat → Int32 → Int32 → Int32 → Int32 → gx_H → Option (Int32 × gx_H)) (k44 : Nat → Int32 → Int32 → Int32 → Int32 → Int32 → gx_H → Option (Int32 × gx_H)) (k57 : Nat → Int32 → Int32 → Int32 → Int32 → Int32 → Int32 → Int32 → gx_H → Option (Int32 × gx_H)) (v0 : Nat) (v2 : Int32) (v3 : Int32) (v4 : Int32) (v5 : Int32) (v6 : Int32) (v8 : Int32) (s0 : Int32) (h : gx_H) : Option (Int32 × gx_H) :=
  k57 v0 v2 v3 v4 v5 v6 s0 (v8 + (1 : Int32)) h
def bX11_ask_70 (k30 : Nat → Int32 → Int32 → Int32 → Int32 → gx_H → Option (Int32 × gx_H)) (k44 : Nat → Int32 → Int32 → Int32 → Int32 → Int32 → gx_H → Option (Int32 × gx_H)) (k57 : Nat → Int32 → Int32 → Int32 → Int32 → Int32 → Int32 → Int32 → gx_H → Option (Int32 × gx_H)) (k70 : Nat → Int32 → Int32 → Int32 → Int32 → Int32 → Int32 → Int32 → Int32 → Int32 → gx_H → Option (Int32 × gx_H)) (v0 : Nat) (v2 : Int32) (v3 : Int32) (v4 : Int32) (v5 : Int32) (v6 : Int32) (v7 : Int32) (v8 : Int32) (v9 : Int32) (v10 : Int32) (h : gx_H) : Option (Int32 × gx_H) :=
  if (6 : Int32) ≤ v10 then
    if v9 ≤ v7 then
      fX11_ask_158 k30 k44 k57 v0 v2 v3 v4 v5 v6 v8 v7 h
    else
      fX11_ask_158 k30 k44 k57 v0 v2 v3 v4 v5 v6 v8 v9 h
  else
    gx_bd (fX11_has v2 v8 h) fun x10 h9 =>
    if x10 = 0 then
      fX11_ask_134 k30 k44 k57 k70 v0 v2 v3 v4 v5 v6 v7 v8 v10 v9 h9
    else
      gx_bd (fX11_has v2 v10 h9) fun x12 h11 =>
      if x12 = 0 then
        fX11_ask_134 k30 k44 k57 k70 v0 v2 v3 v4 v5 v6 v7 v8 v10 v9 h11
      else
        (gx_fR h11 v0 9 0).bind fun a13 =>
        (gx_aI 0 h11 a13 (0 : Int32)).bind fun x14 =>
        gx_bd (fX11_goesBy v8 x14 v5 v6 h11) fun x16 h15 =>
        (gx_fR h15 v0 9 0).bind fun a17 =>
        (gx_aI 0 h15 a17 (0 : Int32)).bind fun x18 =>
        gx_bd (fX11_goesBy v10 x18 v5 v6 h15) fun x20 h19 =>
        if x16 = x20 then
          fX11_ask_135 k30 k44 k57 k70 v0 v2 v3 v4 v5 v6 v7 v8 v10 v9 (1 : Int32) h19
        else
          fX11_ask_134 k30 k44 k57 k70 v0 v2 v3 v4 v5 v6 v7 v8 v10 v9 h19
def fX11_ask_70 (k30 : Nat → Int32 → Int32 → Int32 → Int32 → gx_H → Option (Int32 × gx_H)) (k44 : Nat → Int32 → Int32 → Int32 → Int32 → Int32 → gx_H → Option (Int32 × gx_H)) (k57 : Nat → Int32 → Int32 → Int32 → Int32 → Int32 → Int32 → Int32 → gx_H → Option (Int32 × gx_H)) : Nat → Nat → Int32 → Int32 → Int32 → Int32 → Int32 → Int32 → Int32 → Int32 → Int32 → gx_H → Option (Int32 × gx_H)
  | 0 => fun _ _ _ _ _ _ _ _ _ _ _ => none
  | n + 1 => bX11_ask_70 k30 k44 k57 (fX11_ask_70 k30 k44 k57 n)
def fX11_ask_200 (k30 : Nat → Int32 → Int32 → Int32 → Int32 → gx_H → Option (Int32 × gx_H)) (k44 : Nat → Int32 → Int32 → Int32 → Int32 → Int32 → gx_H → Option (Int32 × gx_H)) (v0 : Nat) (v2 : Int32) (v3 : Int32) (v5 : Int32) (v6 : Int32) (s0 : Int32) (h : gx_H) : Option (Int32 × gx_H) :=
  k44 v0 v2 v3 s0 v5 (v6 + (1 : Int32)) h
def fX11_ask_185 (k30 : Nat → Int32 → Int32 → Int32 → Int32 → gx_H → Option (Int32 × gx_H)) (k44 : Nat → Int32 → Int32 → Int32 → Int32 → Int32 → gx_H → Option (Int32 × gx_H)) (v0 : Nat) (v2 : Int32) (v4 : Int32) (v5 : Int32) (v6 : Int32) (v7 : Int32) (s0 : Int32) (h : gx_H) : Option (Int32 × gx_H) :=
  if v4 ≤ v7 then
    fX11_ask_200 k30 k44 v0 v2 s0 v5 v6 v4 h
  else
    fX11_ask_200 k30 k44 v0 v2 s0 v5 v6 v7 h
def bX11_ask_57 (k30 : Nat → Int32 → Int32 → Int32 → Int32 → gx_H → Option (Int32 × gx_H)) (k44 : Nat → Int32 → Int32 → Int32 → Int32 → Int32 → gx_H → Option (Int32 × gx_H)) (k57 : Nat → Int32 → Int32 → Int32 → Int32 → Int32 → Int32 → Int32 → gx_H → Option (Int32 × gx_H)) (v0 : Nat) (v2 : Int32) (v3 : Int32) (v4 : Int32) (v5 : Int32) (v6 : Int32) (v7 : Int32) (v8 : Int32) (h : gx_H) : Option (Int32 × gx_H) :=
  if (6 : Int32) ≤ v8 then
    if v4 ≤ v7 then
      fX11_ask_185 k30 k44 v0 v2 v4 v5 v6 v7 v3 h
    else
      fX11_ask_185 k30 k44 v0 v2 v4 v5 v6 v7 (((100 : Int32) * v5) + v6) h
  else
    fX11_ask_70 k30 k44 k57 gx_N v0 v2 v3 v4 v5 v6 v7 v8 (0 : Int32) (0 : Int32) h
def fX11_ask_57 (k30 : Nat → Int32 → Int32 → Int32 → Int32 → gx_H → Option (Int32 × gx_H)) (k44 : Nat → Int32 → Int32 → Int32 → Int32 → Int32 → gx_H → Option (Int32 × gx_H)) : Nat → Nat → Int32 → Int32 → Int32 → Int32 → Int32 → Int32 → Int32 → gx_H → Option (Int32 × gx_H)
  | 0 => fun _ _ _ _ _ _ _ _ _ => none
  | n + 1 => bX11_ask_57 k30 k44 (fX11_ask_57 k30 k44 n)
def bX11_ask_44 (k30 : Nat → Int32 → Int32 → Int32 → Int32 → gx_H → Option (Int32 × gx_H)) (k44 : Nat → Int32 → Int32 → Int32 → Int32 → Int32 → gx_H → Option (Int32 × gx_H)) (v0 : Nat) (v2 : Int32) (v3 : Int32) (v4 : Int32) (v5 : Int32) (v6 : Int32) (h : gx_H) : Option (Int32 × gx_H) :=
  if (6 : Int32) < v6 then
    k30 v0 v2 v3 v4 (v5 + (1 : Int32)) h
  else
    fX11_ask_57 k30 k44 gx_N v0 v2 v3 v4 v5 v6 (0 : Int32) (0 : Int32) h
def fX11_ask_44 (k30 : Nat → Int32 → Int32 → Int32 → Int32 → gx_H → Option (Int32 × gx_H)) : Nat → Nat → Int32 → Int32 → Int32 → Int32 → Int32 → gx_H → Option (Int32 × gx_H)
  | 0 => fun _ _ _ _ _ _ _ => none
  | n + 1 => bX11_ask_44 k30 (fX11_ask_44 k30 n)
def fX11_ask_223 (s0 : Int32) (h : gx_H) : Option (Int32 × gx_H) :=
  some (s0, h)
def bX11_ask_30 (k30 : Nat → Int32 → Int32 → Int32 → Int32 → gx_H → Option (Int32 × gx_H)) (v0 : Nat) (v2 : Int32) (v3 : Int32) (v4 : Int32) (v5 : Int32) (h : gx_H) : Option (Int32 × gx_H) :=
  (gx_fR h v0 9 0).bind fun a7 =>
  (gx_aI 0 h a7 (0 : Int32)).bind fun x8 =>
  if x8 ≤ v5 then
    if v2 = 0 then
      fX11_ask_223 (-1 : Int32) h
    else
      fX11_ask_223 v3 h
  else
    fX11_ask_44 k30 gx_N v0 v2 v3 v4 v5 (1 : Int32) h
def fX11_ask_30 : Nat → Nat → Int32 → Int32 → Int32 → Int32 → gx_H → Option (Int32 × gx_H)
  | 0 => fun _ _ _ _ _ _ => none
  | n + 1 => bX11_ask_30 (fX11_ask_30 n)
def fX11_ask (v0 : Nat) (v1 : Int32) (h : gx_H) : Option (Int32 × gx_H) :=
  (gx_isO h v0 9).bind fun _ =>
  gx_bd (fX11_isPlayer v0 v1 h) fun x2 h1 =>
  if x2 = 0 then
    gx_bd (fX11_bad v0 (-2 : Int32) h1) fun x6 h5 =>
    some (x6, h5)
  else
    gx_bd (fX11_whatOf v0 v1 h1) fun x4 h3 =>
    fX11_ask_30 gx_N v0 x4 (-1 : Int32) (1000000 : Int32) (0 : Int32) h3
set_option maxRecDepth 100000 in
set_option maxHeartbeats 4000000 in
theorem gX11_ask_135 {E : gx_Env} {d : Nat} (k30 : Nat → Int32 → Int32 → Int32 → Int32 → gx_H → Option (Int32 × gx_H)) (hk30 : ∀ (v0 : Nat) (v2 : Int32) (v3 : Int32) (v4 : Int32) (v5 : Int32) (h : gx_H), gx_G E RX11 cX11_ask 11 (some .int) false (d + 4) 0 0 30 [some (.ref v0), none, some (.int v2), some (.int v3), some (.int v4), some (.int v5), none, none, none, none, none] [] h (fun x : Int32 => some (.int x)) (k30 v0 v2 v3 v4 v5 h))  (k44 : Nat → Int32 → Int32 → Int32 → Int32 → Int32 → gx_H → Option (Int32 × gx_H)) (hk44 : ∀ (v0 : Nat) (v2 : Int32) (v3 : Int32) (v4 : Int32) (v5 : Int32) (v6 : Int32) (h : gx_H), gx_G E RX11 cX11_ask 11 (some .int) false (d + 4) 0 0 44 [some (.ref v0), none, some (.int v2), some (.int v3), some (.int v4), some (.int v5), some (.int v6), none, none, none, none] [] h (fun x : Int32 => some (.int x)) (k44 v0 v2 v3 v4 v5 v6 h))  (k57 : Nat → Int32 → Int32 → Int32 → Int32 → Int32 → Int32 → Int32 → gx_H → Option (Int32 × gx_H)) (hk57 : ∀ (v0 : Nat) (v2 : Int32) (v3 : Int32) (v4 : Int32) (v5 : Int32) (v6 : Int32) (v7 : Int32) (v8 : Int32) (h : gx_H), gx_G E RX11 cX11_ask 11 (some .int) false (d + 4) 0 0 57 [some (.ref v0), none, some (.int v2), some (.int v3), some (.int v4), some (.int v5), some (.int v6), some (.int v7), some (.int v8), none, none] [] h (fun x : Int32 => some (.int x)) (k57 v0 v2 v3 v4 v5 v6 v7 v8 h))  (k70 : Nat → Int32 → Int32 → Int32 → Int32 → Int32 → Int32 → Int32 → Int32 → Int32 → gx_H → Option (Int32 × gx_H)) (hk70 : ∀ (v0 : Nat) (v2 : Int32) (v3 : Int32) (v4 : Int32) (v5 : Int32) (v6 : Int32) (v7 : Int32) (v8 : Int32) (v9 : Int32) (v10 : Int32) (h : gx_H), gx_G E RX11 cX11_ask 11 (some .int) false (d + 4) 0 0 70 [some (.ref v0), none, some (.int v2), some (.int v3), some (.int v4), some (.int v5), some (.int v6), some (.int v7), some (.int v8), some (.int v9), some (.int v10)] [] h (fun x : Int32 => some (.int x)) (k70 v0 v2 v3 v4 v5 v6 v7 v8 v9 v10 h))  : ∀ (v0 : Nat) (v2 : Int32) (v3 : Int32) (v4 : Int32) (v5 : Int32) (v6 : Int32) (v7 : Int32) (v8 : Int32) (v10 : Int32) (s0 : Int32) (s1 : Int32) (h : gx_H), gx_G E RX11 cX11_ask 11 (some .int) false (d + 4) 0 0 135 [some (.ref v0), none, some (.int v2), some (.int v3), some (.int v4), some (.int v5), some (.int v6), some (.int v7), some (.int v8), none, some (.int v10)] [.int s1, .int s0] h (fun x : Int32 => some (.int x)) (fX11_ask_135 k30 k44 k57 k70 v0 v2 v3 v4 v5 v6 v7 v8 v10 s0 s1 h) := by
  intro v0 v2 v3 v4 v5 v6 v7 v8 v10 s0 s1 h
  unfold fX11_ask_135
  refine gx_iadd dX11_ask_135 ?_
  refine gx_istore [some (.ref v0), none, some (.int v2), some (.int v3), some (.int v4), some (.int v5), some (.int v6), some (.int v7), some (.int v8), some (.int (s0 + s1)), some (.int v10)] dX11_ask_136 (by decide) rfl ?_
  refine gx_iinc (1 : Int32) [some (.ref v0), none, some (.int v2), some (.int v3), some (.int v4), some (.int v5), some (.int v6), some (.int v7), some (.int v8), some (.int (s0 + s1)), some (.int (v10 + (1 : Int32)))] dX11_ask_138 rfl (by decide) (by decide) rfl ?_
  refine gx_goto 70 dX11_ask_141 (by decide) ?_
  exact gx_sub (hk70 v0 v2 v3 v4 v5 v6 v7 v8 (s0 + s1) (v10 + (1 : Int32)) h) (And.intro rfl (And.intro rfl (And.intro rfl (And.intro rfl (And.intro rfl (And.intro rfl (And.intro rfl (And.intro rfl (And.intro rfl (And.intro rfl True.intro))))))))))
set_option maxRecDepth 100000 in
set_option maxHeartbeats 4000000 in
theorem gX11_ask_134 {E : gx_Env} {d : Nat} (k30 : Nat → Int32 → Int32 → Int32 → Int32 → gx_H → Option (Int32 × gx_H)) (hk30 : ∀ (v0 : Nat) (v2 : Int32) (v3 : Int32) (v4 : Int32) (v5 : Int32) (h : gx_H), gx_G E RX11 cX11_ask 11 (some .int) false (d + 4) 0 0 30 [some (.ref v0), none, some (.int v2), some (.int v3), some (.int v4), some (.int v5), none, none, none, none, none] [] h (fun x : Int32 => some (.int x)) (k30 v0 v2 v3 v4 v5 h))  (k44 : Nat → Int32 → Int32 → Int32 → Int32 → Int32 → gx_H → Option (Int32 × gx_H)) (hk44 : ∀ (v0 : Nat) (v2 : Int32) (v3 : Int32) (v4 : Int32) (v5 : Int32) (v6 : Int32) (h : gx_H), gx_G E RX11 cX11_ask 11 (some .int) false (d + 4) 0 0 44 [some (.ref v0), none, some (.int v2), some (.int v3), some (.int v4), some (.int v5), some (.int v6), none, none, none, none] [] h (fun x : Int32 => some (.int x)) (k44 v0 v2 v3 v4 v5 v6 h))  (k57 : Nat → Int32 → Int32 → Int32 → Int32 → Int32 → Int32 → Int32 → gx_H → Option (Int32 × gx_H)) (hk57 : ∀ (v0 : Nat) (v2 : Int32) (v3 : Int32) (v4 : Int32) (v5 : Int32) (v6 : Int32) (v7 : Int32) (v8 : Int32) (h : gx_H), gx_G E RX11 cX11_ask 11 (some .int) false (d + 4) 0 0 57 [some (.ref v0), none, some (.int v2), some (.int v3), some (.int v4), some (.int v5), some (.int v6), some (.int v7), some (.int v8), none, none] [] h (fun x : Int32 => some (.int x)) (k57 v0 v2 v3 v4 v5 v6 v7 v8 h))  (k70 : Nat → Int32 → Int32 → Int32 → Int32 → Int32 → Int32 → Int32 → Int32 → Int32 → gx_H → Option (Int32 × gx_H)) (hk70 : ∀ (v0 : Nat) (v2 : Int32) (v3 : Int32) (v4 : Int32) (v5 : Int32) (v6 : Int32) (v7 : Int32) (v8 : Int32) (v9 : Int32) (v10 : Int32) (h : gx_H), gx_G E RX11 cX11_ask 11 (some .int) false (d + 4) 0 0 70 [some (.ref v0), none, some (.int v2), some (.int v3), some (.int v4), some (.int v5), some (.int v6), some (.int v7), some (.int v8), some (.int v9), some (.int v10)] [] h (fun x : Int32 => some (.int x)) (k70 v0 v2 v3 v4 v5 v6 v7 v8 v9 v10 h))  : ∀ (v0 : Nat) (v2 : Int32) (v3 : Int32) (v4 : Int32) (v5 : Int32) (v6 : Int32) (v7 : Int32) (v8 : Int32) (v10 : Int32) (s0 : Int32) (h : gx_H), gx_G E RX11 cX11_ask 11 (some .int) false (d + 4) 0 0 134 [some (.ref v0), none, some (.int v2), some (.int v3), some (.int v4), some (.int v5), some (.int v6), some (.int v7), some (.int v8), none, some (.int v10)] [.int s0] h (fun x : Int32 => some (.int x)) (fX11_ask_134 k30 k44 k57 k70 v0 v2 v3 v4 v5 v6 v7 v8 v10 s0 h) := by
  intro v0 v2 v3 v4 v5 v6 v7 v8 v10 s0 h
  unfold fX11_ask_134
  refine gx_iconst (0 : Int32) dX11_ask_134 (by decide) ?_
  exact gx_sub (gX11_ask_135 k30 hk30 k44 hk44 k57 hk57 k70 hk70 v0 v2 v3 v4 v5 v6 v7 v8 v10 s0 (0 : Int32) h) (And.intro rfl (And.intro rfl (And.intro rfl (And.intro rfl (And.intro rfl (And.intro rfl (And.intro rfl (And.intro rfl (And.intro rfl True.intro)))))))))
set_option maxRecDepth 100000 in
set_option maxHeartbeats 4000000 in
theorem gX11_ask_158 {E : gx_Env} {d : Nat} (k30 : Nat → Int32 → Int32 → Int32 → Int32 → gx_H → Option (Int32 × gx_H)) (hk30 : ∀ (v0 : Nat) (v2 : Int32) (v3 : Int32) (v4 : Int32) (v5 : Int32) (h : gx_H), gx_G E RX11 cX11_ask 11 (some .int) false (d + 4) 0 0 30 [some (.ref v0), none, some (.int v2), some (.int v3), some (.int v4), some (.int v5), none, none, none, none, none] [] h (fun x : Int32 => some (.int x)) (k30 v0 v2 v3 v4 v5 h))  (k44 : Nat → Int32 → Int32 → Int32 → Int32 → Int32 → gx_H → Option (Int32 × gx_H)) (hk44 : ∀ (v0 : Nat) (v2 : Int32) (v3 : Int32) (v4 : Int32) (v5 : Int32) (v6 : Int32) (h : gx_H), gx_G E RX11 cX11_ask 11 (some .int) false (d + 4) 0 0 44 [some (.ref v0), none, some (.int v2), some (.int v3), some (.int v4), some (.int v5), some (.int v6), none, none, none, none] [] h (fun x : Int32 => some (.int x)) (k44 v0 v2 v3 v4 v5 v6 h))  (k57 : Nat → Int32 → Int32 → Int32 → Int32 → Int32 → Int32 → Int32 → gx_H → Option (Int32 × gx_H)) (hk57 : ∀ (v0 : Nat) (v2 : Int32) (v3 : Int32) (v4 : Int32) (v5 : Int32) (v6 : Int32) (v7 : Int32) (v8 : Int32) (h : gx_H), gx_G E RX11 cX11_ask 11 (some .int) false (d + 4) 0 0 57 [some (.ref v0), none, some (.int v2), some (.int v3), some (.int v4), some (.int v5), some (.int v6), some (.int v7), some (.int v8), none, none] [] h (fun x : Int32 => some (.int x)) (k57 v0 v2 v3 v4 v5 v6 v7 v8 h))  : ∀ (v0 : Nat) (v2 : Int32) (v3 : Int32) (v4 : Int32) (v5 : Int32) (v6 : Int32) (v8 : Int32) (s0 : Int32) (h : gx_H), gx_G E RX11 cX11_ask 11 (some .int) false (d + 4) 0 0 158 [some (.ref v0), none, some (.int v2), some (.int v3), some (.int v4), some (.int v5), some (.int v6), none, some (.int v8), none, none] [.int s0] h (fun x : Int32 => some (.int x)) (fX11_ask_158 k30 k44 k57 v0 v2 v3 v4 v5 v6 v8 s0 h) := by
  intro v0 v2 v3 v4 v5 v6 v8 s0 h
  unfold fX11_ask_158
  refine gx_istore [some (.ref v0), none, some (.int v2), some (.int v3), some (.int v4), some (.int v5), some (.int v6), some (.int s0), some (.int v8), none, none] dX11_ask_158 (by decide) rfl ?_
  refine gx_iinc (1 : Int32) [some (.ref v0), none, some (.int v2), some (.int v3), some (.int v4), some (.int v5), some (.int v6), some (.int s0), some (.int (v8 + (1 : Int32))), none, none] dX11_ask_160 rfl (by decide) (by decide) rfl ?_
  refine gx_goto 57 dX11_ask_163 (by decide) ?_
  exact gx_sub (hk57 v0 v2 v3 v4 v5 v6 s0 (v8 + (1 : Int32)) h) (And.intro rfl (And.intro rfl (And.intro rfl (And.intro rfl (And.intro rfl (And.intro rfl (And.intro rfl (And.intro rfl True.intro))))))))
set_option maxRecDepth 100000 in
set_option maxHeartbeats 4000000 in
theorem gbX11_ask_70 {E : gx_Env} {d : Nat} (k30 : Nat → Int32 → Int32 → Int32 → Int32 → gx_H → Option (Int32 × gx_H)) (hk30 : ∀ (v0 : Nat) (v2 : Int32) (v3 : Int32) (v4 : Int32) (v5 : Int32) (h : gx_H), gx_G E RX11 cX11_ask 11 (some .int) false (d + 4) 0 0 30 [some (.ref v0), none, some (.int v2), some (.int v3), some (.int v4), some (.int v5), none, none, none, none, none] [] h (fun x : Int32 => some (.int x)) (k30 v0 v2 v3 v4 v5 h))  (k44 : Nat → Int32 → Int32 → Int32 → Int32 → Int32 → gx_H → Option (Int32 × gx_H)) (hk44 : ∀ (v0 : Nat) (v2 : Int32) (v3 : Int32) (v4 : Int32) (v5 : Int32) (v6 : Int32) (h : gx_H), gx_G E RX11 cX11_ask 11 (some .int) false (d + 4) 0 0 44 [some (.ref v0), none, some (.int v2), some (.int v3), some (.int v4), some (.int v5), some (.int v6), none, none, none, none] [] h (fun x : Int32 => some (.int x)) (k44 v0 v2 v3 v4 v5 v6 h))  (k57 : Nat → Int32 → Int32 → Int32 → Int32 → Int32 → Int32 → Int32 → gx_H → Option (Int32 × gx_H)) (hk57 : ∀ (v0 : Nat) (v2 : Int32) (v3 : Int32) (v4 : Int32) (v5 : Int32) (v6 : Int32) (v7 : Int32) (v8 : Int32) (h : gx_H), gx_G E RX11 cX11_ask 11 (some .int) false (d + 4) 0 0 57 [some (.ref v0), none, some (.int v2), some (.int v3), some (.int v4), some (.int v5), some (.int v6), some (.int v7), some (.int v8), none, none] [] h (fun x : Int32 => some (.int x)) (k57 v0 v2 v3 v4 v5 v6 v7 v8 h))  (k70 : Nat → Int32 → Int32 → Int32 → Int32 → Int32 → Int32 → Int32 → Int32 → Int32 → gx_H → Option (Int32 × gx_H)) (hk70 : ∀ (v0 : Nat) (v2 : Int32) (v3 : Int32) (v4 : Int32) (v5 : Int32) (v6 : Int32) (v7 : Int32) (v8 : Int32) (v9 : Int32) (v10 : Int32) (h : gx_H), gx_G E RX11 cX11_ask 11 (some .int) false (d + 4) 0 0 70 [some (.ref v0), none, some (.int v2), some (.int v3), some (.int v4), some (.int v5), some (.int v6), some (.int v7), some (.int v8), some (.int v9), some (.int v10)] [] h (fun x : Int32 => some (.int x)) (k70 v0 v2 v3 v4 v5 v6 v7 v8 v9 v10 h))  : ∀ (v0 : Nat) (v2 : Int32) (v3 : Int32) (v4 : Int32) (v5 : Int32) (v6 : Int32) (v7 : Int32) (v8 : Int32) (v9 : Int32) (v10 : Int32) (h : gx_H), gx_G E RX11 cX11_ask 11 (some .int) false (d + 4) 0 0 70 [some (.ref v0), none, some (.int v2), some (.int v3), some (.int v4), some (.int v5), some (.int v6), some (.int v7), some (.int v8), some (.int v9), some (.int v10)] [] h (fun x : Int32 => some (.int x)) (bX11_ask_70 k30 k44 k57 k70 v0 v2 v3 v4 v5 v6 v7 v8 v9 v10 h) := by
  intro v0 v2 v3 v4 v5 v6 v7 v8 v9 v10 h
  unfold bX11_ask_70
  refine gx_iload dX11_ask_70 rfl ?_
  refine gx_bipush (6 : Int32) dX11_ask_72 (by decide) ?_
  refine gx_icmp_ge 144 dX11_ask_74 (by decide) (fun _ => ?_) (fun _ => ?_)
  · refine gx_iload dX11_ask_144 rfl ?_
    refine gx_iload dX11_ask_146 rfl ?_
    refine gx_icmp_le 156 dX11_ask_148 (by decide) (fun _ => ?_) (fun _ => ?_)
    · refine gx_iload dX11_ask_156 rfl ?_
      exact gx_sub (gX11_ask_158 k30 hk30 k44 hk44 k57 hk57 v0 v2 v3 v4 v5 v6 v8 v7 h) (And.intro rfl (And.intro rfl (And.intro rfl (And.intro rfl (And.intro rfl (And.intro rfl (And.intro rfl True.intro)))))))
    · refine gx_iload dX11_ask_151 rfl ?_
      refine gx_goto 158 dX11_ask_153 (by decide) ?_
      exact gx_sub (gX11_ask_158 k30 hk30 k44 hk44 k57 hk57 v0 v2 v3 v4 v5 v6 v8 v9 h) (And.intro rfl (And.intro rfl (And.intro rfl (And.intro rfl (And.intro rfl (And.intro rfl (And.intro rfl True.intro)))))))
  · refine gx_iload dX11_ask_77 rfl ?_
    refine gx_iload_n 2 dX11_ask_79 rfl rfl ?_
    refine gx_iload dX11_ask_80 rfl ?_
    refine gx_callS (bc := 0) (bs := 0) (mc := 0) (ms := 0) (em' := (fun x : Int32 => some (.int x))) [.int v2, .int v8] kc_RX11_233 dX11_ask_82 rfl rfl (gx_w8 rfl) (fun _ _ q => okX11_has (d + 3) q) (fun x10 h9 => ?_)
    refine gx_if_eq 134 dX11_ask_85 (by decide) (fun _ => ?_) (fun _ => ?_)
    · exact gx_sub (gX11_ask_134 k30 hk30 k44 hk44 k57 hk57 k70 hk70 v0 v2 v3 v4 v5 v6 v7 v8 v10 v9 h9) (And.intro rfl (And.intro rfl (And.intro rfl (And.intro rfl (And.intro rfl (And.intro rfl (And.intro rfl (And.intro rfl (And.intro rfl True.intro)))))))))
    · refine gx_iload_n 2 dX11_ask_88 rfl rfl ?_
      refine gx_iload dX11_ask_89 rfl ?_
      refine gx_callS (bc := 0) (bs := 0) (mc := 0) (ms := 0) (em' := (fun x : Int32 => some (.int x))) [.int v2, .int v10] kc_RX11_233 dX11_ask_91 rfl rfl (gx_w8 rfl) (fun _ _ q => okX11_has (d + 3) q) (fun x12 h11 => ?_)
      refine gx_if_eq 134 dX11_ask_94 (by decide) (fun _ => ?_) (fun _ => ?_)
      · exact gx_sub (gX11_ask_134 k30 hk30 k44 hk44 k57 hk57 k70 hk70 v0 v2 v3 v4 v5 v6 v7 v8 v10 v9 h11) (And.intro rfl (And.intro rfl (And.intro rfl (And.intro rfl (And.intro rfl (And.intro rfl (And.intro rfl (And.intro rfl (And.intro rfl True.intro)))))))))
      · refine gx_iload dX11_ask_97 rfl ?_
        refine gx_aload_n 0 dX11_ask_99 rfl rfl ?_
        refine gx_getR kf_RX11_7 dX11_ask_100 (fun a13 => ?_)
        refine gx_iconst (0 : Int32) dX11_ask_103 (by decide) ?_
        refine gx_iald dX11_ask_104 (fun x14 => ?_)
        refine gx_iload dX11_ask_105 rfl ?_
        refine gx_iload dX11_ask_107 rfl ?_
        refine gx_callS (bc := 0) (bs := 0) (mc := 0) (ms := 0) (em' := (fun x : Int32 => some (.int x))) [.int v8, .int x14, .int v5, .int v6] kc_RX11_61 dX11_ask_109 rfl rfl (gx_w8 rfl) (fun _ _ q => okX11_goesBy (d + 1) q) (fun x16 h15 => ?_)
        refine gx_iload dX11_ask_112 rfl ?_
        refine gx_aload_n 0 dX11_ask_114 rfl rfl ?_
        refine gx_getR kf_RX11_7 dX11_ask_115 (fun a17 => ?_)
        refine gx_iconst (0 : Int32) dX11_ask_118 (by decide) ?_
        refine gx_iald dX11_ask_119 (fun x18 => ?_)
        refine gx_iload dX11_ask_120 rfl ?_
        refine gx_iload dX11_ask_122 rfl ?_
        refine gx_callS (bc := 0) (bs := 0) (mc := 0) (ms := 0) (em' := (fun x : Int32 => some (.int x))) [.int v10, .int x18, .int v5, .int v6] kc_RX11_61 dX11_ask_124 rfl rfl (gx_w8 rfl) (fun _ _ q => okX11_goesBy (d + 1) q) (fun x20 h19 => ?_)
        refine gx_icmp_ne 134 dX11_ask_127 (by decide) (fun _ => ?_) (fun _ => ?_)
        · exact gx_sub (gX11_ask_134 k30 hk30 k44 hk44 k57 hk57 k70 hk70 v0 v2 v3 v4 v5 v6 v7 v8 v10 v9 h19) (And.intro rfl (And.intro rfl (And.intro rfl (And.intro rfl (And.intro rfl (And.intro rfl (And.intro rfl (And.intro rfl (And.intro rfl True.intro)))))))))
        · refine gx_iconst (1 : Int32) dX11_ask_130 (by decide) ?_
          refine gx_goto 135 dX11_ask_131 (by decide) ?_
          exact gx_sub (gX11_ask_135 k30 hk30 k44 hk44 k57 hk57 k70 hk70 v0 v2 v3 v4 v5 v6 v7 v8 v10 v9 (1 : Int32) h19) (And.intro rfl (And.intro rfl (And.intro rfl (And.intro rfl (And.intro rfl (And.intro rfl (And.intro rfl (And.intro rfl (And.intro rfl True.intro)))))))))
set_option maxRecDepth 100000 in
set_option maxHeartbeats 4000000 in
theorem gX11_ask_70 {E : gx_Env} {d : Nat} (k30 : Nat → Int32 → Int32 → Int32 → Int32 → gx_H → Option (Int32 × gx_H)) (hk30 : ∀ (v0 : Nat) (v2 : Int32) (v3 : Int32) (v4 : Int32) (v5 : Int32) (h : gx_H), gx_G E RX11 cX11_ask 11 (some .int) false (d + 4) 0 0 30 [some (.ref v0), none, some (.int v2), some (.int v3), some (.int v4), some (.int v5), none, none, none, none, none] [] h (fun x : Int32 => some (.int x)) (k30 v0 v2 v3 v4 v5 h))  (k44 : Nat → Int32 → Int32 → Int32 → Int32 → Int32 → gx_H → Option (Int32 × gx_H)) (hk44 : ∀ (v0 : Nat) (v2 : Int32) (v3 : Int32) (v4 : Int32) (v5 : Int32) (v6 : Int32) (h : gx_H), gx_G E RX11 cX11_ask 11 (some .int) false (d + 4) 0 0 44 [some (.ref v0), none, some (.int v2), some (.int v3), some (.int v4), some (.int v5), some (.int v6), none, none, none, none] [] h (fun x : Int32 => some (.int x)) (k44 v0 v2 v3 v4 v5 v6 h))  (k57 : Nat → Int32 → Int32 → Int32 → Int32 → Int32 → Int32 → Int32 → gx_H → Option (Int32 × gx_H)) (hk57 : ∀ (v0 : Nat) (v2 : Int32) (v3 : Int32) (v4 : Int32) (v5 : Int32) (v6 : Int32) (v7 : Int32) (v8 : Int32) (h : gx_H), gx_G E RX11 cX11_ask 11 (some .int) false (d + 4) 0 0 57 [some (.ref v0), none, some (.int v2), some (.int v3), some (.int v4), some (.int v5), some (.int v6), some (.int v7), some (.int v8), none, none] [] h (fun x : Int32 => some (.int x)) (k57 v0 v2 v3 v4 v5 v6 v7 v8 h))  : ∀ (n : Nat) (v0 : Nat) (v2 : Int32) (v3 : Int32) (v4 : Int32) (v5 : Int32) (v6 : Int32) (v7 : Int32) (v8 : Int32) (v9 : Int32) (v10 : Int32) (h : gx_H), gx_G E RX11 cX11_ask 11 (some .int) false (d + 4) 0 0 70 [some (.ref v0), none, some (.int v2), some (.int v3), some (.int v4), some (.int v5), some (.int v6), some (.int v7), some (.int v8), some (.int v9), some (.int v10)] [] h (fun x : Int32 => some (.int x)) (fX11_ask_70 k30 k44 k57 n v0 v2 v3 v4 v5 v6 v7 v8 v9 v10 h) := by
  intro n
  induction n with
  | zero => intro v0 v2 v3 v4 v5 v6 v7 v8 v9 v10 h; exact gx_none
  | succ n ih => exact gbX11_ask_70 k30 hk30 k44 hk44 k57 hk57 (fX11_ask_70 k30 k44 k57 n) ih
set_option maxRecDepth 100000 in
set_option maxHeartbeats 4000000 in
theorem gX11_ask_200 {E : gx_Env} {d : Nat} (k30 : Nat → Int32 → Int32 → Int32 → Int32 → gx_H → Option (Int32 × gx_H)) (hk30 : ∀ (v0 : Nat) (v2 : Int32) (v3 : Int32) (v4 : Int32) (v5 : Int32) (h : gx_H), gx_G E RX11 cX11_ask 11 (some .int) false (d + 4) 0 0 30 [some (.ref v0), none, some (.int v2), some (.int v3), some (.int v4), some (.int v5), none, none, none, none, none] [] h (fun x : Int32 => some (.int x)) (k30 v0 v2 v3 v4 v5 h))  (k44 : Nat → Int32 → Int32 → Int32 → Int32 → Int32 → gx_H → Option (Int32 × gx_H)) (hk44 : ∀ (v0 : Nat) (v2 : Int32) (v3 : Int32) (v4 : Int32) (v5 : Int32) (v6 : Int32) (h : gx_H), gx_G E RX11 cX11_ask 11 (some .int) false (d + 4) 0 0 44 [some (.ref v0), none, some (.int v2), some (.int v3), some (.int v4), some (.int v5), some (.int v6), none, none, none, none] [] h (fun x : Int32 => some (.int x)) (k44 v0 v2 v3 v4 v5 v6 h))  : ∀ (v0 : Nat) (v2 : Int32) (v3 : Int32) (v5 : Int32) (v6 : Int32) (s0 : Int32) (h : gx_H), gx_G E RX11 cX11_ask 11 (some .int) false (d + 4) 0 0 200 [some (.ref v0), none, some (.int v2), some (.int v3), none, some (.int v5), some (.int v6), none, none, none, none] [.int s0] h (fun x : Int32 => some (.int x)) (fX11_ask_200 k30 k44 v0 v2 v3 v5 v6 s0 h) := by
  intro v0 v2 v3 v5 v6 s0 h
  unfold fX11_ask_200
  refine gx_istore [some (.ref v0), none, some (.int v2), some (.int v3), some (.int s0), some (.int v5), some (.int v6), none, none, none, none] dX11_ask_200 (by decide) rfl ?_
  refine gx_iinc (1 : Int32) [some (.ref v0), none, some (.int v2), some (.int v3), some (.int s0), some (.int v5), some (.int (v6 + (1 : Int32))), none, none, none, none] dX11_ask_202 rfl (by decide) (by decide) rfl ?_
  refine gx_goto 44 dX11_ask_205 (by decide) ?_
  exact gx_sub (hk44 v0 v2 v3 s0 v5 (v6 + (1 : Int32)) h) (And.intro rfl (And.intro rfl (And.intro rfl (And.intro rfl (And.intro rfl (And.intro rfl True.intro))))))
set_option maxRecDepth 100000 in
set_option maxHeartbeats 4000000 in
theorem gX11_ask_185 {E : gx_Env} {d : Nat} (k30 : Nat → Int32 → Int32 → Int32 → Int32 → gx_H → Option (Int32 × gx_H)) (hk30 : ∀ (v0 : Nat) (v2 : Int32) (v3 : Int32) (v4 : Int32) (v5 : Int32) (h : gx_H), gx_G E RX11 cX11_ask 11 (some .int) false (d + 4) 0 0 30 [some (.ref v0), none, some (.int v2), some (.int v3), some (.int v4), some (.int v5), none, none, none, none, none] [] h (fun x : Int32 => some (.int x)) (k30 v0 v2 v3 v4 v5 h))  (k44 : Nat → Int32 → Int32 → Int32 → Int32 → Int32 → gx_H → Option (Int32 × gx_H)) (hk44 : ∀ (v0 : Nat) (v2 : Int32) (v3 : Int32) (v4 : Int32) (v5 : Int32) (v6 : Int32) (h : gx_H), gx_G E RX11 cX11_ask 11 (some .int) false (d + 4) 0 0 44 [some (.ref v0), none, some (.int v2), some (.int v3), some (.int v4), some (.int v5), some (.int v6), none, none, none, none] [] h (fun x : Int32 => some (.int x)) (k44 v0 v2 v3 v4 v5 v6 h))  : ∀ (v0 : Nat) (v2 : Int32) (v4 : Int32) (v5 : Int32) (v6 : Int32) (v7 : Int32) (s0 : Int32) (h : gx_H), gx_G E RX11 cX11_ask 11 (some .int) false (d + 4) 0 0 185 [some (.ref v0), none, some (.int v2), none, some (.int v4), some (.int v5), some (.int v6), some (.int v7), none, none, none] [.int s0] h (fun x : Int32 => some (.int x)) (fX11_ask_185 k30 k44 v0 v2 v4 v5 v6 v7 s0 h) := by
  intro v0 v2 v4 v5 v6 v7 s0 h
  unfold fX11_ask_185
  refine gx_istore_n 3 [some (.ref v0), none, some (.int v2), some (.int s0), some (.int v4), some (.int v5), some (.int v6), some (.int v7), none, none, none] dX11_ask_185 rfl (by decide) rfl ?_
  refine gx_iload dX11_ask_186 rfl ?_
  refine gx_iload dX11_ask_188 rfl ?_
  refine gx_icmp_ge 198 dX11_ask_190 (by decide) (fun _ => ?_) (fun _ => ?_)
  · refine gx_iload dX11_ask_198 rfl ?_
    exact gx_sub (gX11_ask_200 k30 hk30 k44 hk44 v0 v2 s0 v5 v6 v4 h) (And.intro rfl (And.intro rfl (And.intro rfl (And.intro rfl (And.intro rfl True.intro)))))
  · refine gx_iload dX11_ask_193 rfl ?_
    refine gx_goto 200 dX11_ask_195 (by decide) ?_
    exact gx_sub (gX11_ask_200 k30 hk30 k44 hk44 v0 v2 s0 v5 v6 v7 h) (And.intro rfl (And.intro rfl (And.intro rfl (And.intro rfl (And.intro rfl True.intro)))))
set_option maxRecDepth 100000 in
set_option maxHeartbeats 4000000 in
theorem gbX11_ask_57 {E : gx_Env} {d : Nat} (k30 : Nat → Int32 → Int32 → Int32 → Int32 → gx_H → Option (Int32 × gx_H)) (hk30 : ∀ (v0 : Nat) (v2 : Int32) (v3 : Int32) (v4 : Int32) (v5 : Int32) (h : gx_H), gx_G E RX11 cX11_ask 11 (some .int) false (d + 4) 0 0 30 [some (.ref v0), none, some (.int v2), some (.int v3), some (.int v4), some (.int v5), none, none, none, none, none] [] h (fun x : Int32 => some (.int x)) (k30 v0 v2 v3 v4 v5 h))  (k44 : Nat → Int32 → Int32 → Int32 → Int32 → Int32 → gx_H → Option (Int32 × gx_H)) (hk44 : ∀ (v0 : Nat) (v2 : Int32) (v3 : Int32) (v4 : Int32) (v5 : Int32) (v6 : Int32) (h : gx_H), gx_G E RX11 cX11_ask 11 (some .int) false (d + 4) 0 0 44 [some (.ref v0), none, some (.int v2), some (.int v3), some (.int v4), some (.int v5), some (.int v6), none, none, none, none] [] h (fun x : Int32 => some (.int x)) (k44 v0 v2 v3 v4 v5 v6 h))  (k57 : Nat → Int32 → Int32 → Int32 → Int32 → Int32 → Int32 → Int32 → gx_H → Option (Int32 × gx_H)) (hk57 : ∀ (v0 : Nat) (v2 : Int32) (v3 : Int32) (v4 : Int32) (v5 : Int32) (v6 : Int32) (v7 : Int32) (v8 : Int32) (h : gx_H), gx_G E RX11 cX11_ask 11 (some .int) false (d + 4) 0 0 57 [some (.ref v0), none, some (.int v2), some (.int v3), some (.int v4), some (.int v5), some (.int v6), some (.int v7), some (.int v8), none, none] [] h (fun x : Int32 => some (.int x)) (k57 v0 v2 v3 v4 v5 v6 v7 v8 h))  : ∀ (v0 : Nat) (v2 : Int32) (v3 : Int32) (v4 : Int32) (v5 : Int32) (v6 : Int32) (v7 : Int32) (v8 : Int32) (h : gx_H), gx_G E RX11 cX11_ask 11 (some .int) false (d + 4) 0 0 57 [some (.ref v0), none, some (.int v2), some (.int v3), some (.int v4), some (.int v5), some (.int v6), some (.int v7), some (.int v8), none, none] [] h (fun x : Int32 => some (.int x)) (bX11_ask_57 k30 k44 k57 v0 v2 v3 v4 v5 v6 v7 v8 h) := by
  intro v0 v2 v3 v4 v5 v6 v7 v8 h
  unfold bX11_ask_57
  refine gx_iload dX11_ask_57 rfl ?_
  refine gx_bipush (6 : Int32) dX11_ask_59 (by decide) ?_
  refine gx_icmp_ge 166 dX11_ask_61 (by decide) (fun _ => ?_) (fun _ => ?_)
  · refine gx_iload dX11_ask_166 rfl ?_
    refine gx_iload dX11_ask_168 rfl ?_
    refine gx_icmp_ge 184 dX11_ask_170 (by decide) (fun _ => ?_) (fun _ => ?_)
    · refine gx_iload_n 3 dX11_ask_184 rfl rfl ?_
      exact gx_sub (gX11_ask_185 k30 hk30 k44 hk44 v0 v2 v4 v5 v6 v7 v3 h) (And.intro rfl (And.intro rfl (And.intro rfl (And.intro rfl (And.intro rfl (And.intro rfl True.intro))))))
    · refine gx_bipush (100 : Int32) dX11_ask_173 (by decide) ?_
      refine gx_iload dX11_ask_175 rfl ?_
      refine gx_imul dX11_ask_177 ?_
      refine gx_iload dX11_ask_178 rfl ?_
      refine gx_iadd dX11_ask_180 ?_
      refine gx_goto 185 dX11_ask_181 (by decide) ?_
      exact gx_sub (gX11_ask_185 k30 hk30 k44 hk44 v0 v2 v4 v5 v6 v7 (((100 : Int32) * v5) + v6) h) (And.intro rfl (And.intro rfl (And.intro rfl (And.intro rfl (And.intro rfl (And.intro rfl True.intro))))))
  · refine gx_iconst (0 : Int32) dX11_ask_64 (by decide) ?_
    refine gx_istore [some (.ref v0), none, some (.int v2), some (.int v3), some (.int v4), some (.int v5), some (.int v6), some (.int v7), some (.int v8), some (.int (0 : Int32)), none] dX11_ask_65 (by decide) rfl ?_
    refine gx_iconst (0 : Int32) dX11_ask_67 (by decide) ?_
    refine gx_istore [some (.ref v0), none, some (.int v2), some (.int v3), some (.int v4), some (.int v5), some (.int v6), some (.int v7), some (.int v8), some (.int (0 : Int32)), some (.int (0 : Int32))] dX11_ask_68 (by decide) rfl ?_
    exact gx_sub (gX11_ask_70 k30 hk30 k44 hk44 k57 hk57 gx_N v0 v2 v3 v4 v5 v6 v7 v8 (0 : Int32) (0 : Int32) h) (And.intro rfl (And.intro rfl (And.intro rfl (And.intro rfl (And.intro rfl (And.intro rfl (And.intro rfl (And.intro rfl (And.intro rfl (And.intro rfl True.intro))))))))))
set_option maxRecDepth 100000 in
set_option maxHeartbeats 4000000 in
theorem gX11_ask_57 {E : gx_Env} {d : Nat} (k30 : Nat → Int32 → Int32 → Int32 → Int32 → gx_H → Option (Int32 × gx_H)) (hk30 : ∀ (v0 : Nat) (v2 : Int32) (v3 : Int32) (v4 : Int32) (v5 : Int32) (h : gx_H), gx_G E RX11 cX11_ask 11 (some .int) false (d + 4) 0 0 30 [some (.ref v0), none, some (.int v2), some (.int v3), some (.int v4), some (.int v5), none, none, none, none, none] [] h (fun x : Int32 => some (.int x)) (k30 v0 v2 v3 v4 v5 h))  (k44 : Nat → Int32 → Int32 → Int32 → Int32 → Int32 → gx_H → Option (Int32 × gx_H)) (hk44 : ∀ (v0 : Nat) (v2 : Int32) (v3 : Int32) (v4 : Int32) (v5 : Int32) (v6 : Int32) (h : gx_H), gx_G E RX11 cX11_ask 11 (some .int) false (d + 4) 0 0 44 [some (.ref v0), none, some (.int v2), some (.int v3), some (.int v4), some (.int v5), some (.int v6), none, none, none, none] [] h (fun x : Int32 => some (.int x)) (k44 v0 v2 v3 v4 v5 v6 h))  : ∀ (n : Nat) (v0 : Nat) (v2 : Int32) (v3 : Int32) (v4 : Int32) (v5 : Int32) (v6 : Int32) (v7 : Int32) (v8 : Int32) (h : gx_H), gx_G E RX11 cX11_ask 11 (some .int) false (d + 4) 0 0 57 [some (.ref v0), none, some (.int v2), some (.int v3), some (.int v4), some (.int v5), some (.int v6), some (.int v7), some (.int v8), none, none] [] h (fun x : Int32 => some (.int x)) (fX11_ask_57 k30 k44 n v0 v2 v3 v4 v5 v6 v7 v8 h) := by
  intro n
  induction n with
  | zero => intro v0 v2 v3 v4 v5 v6 v7 v8 h; exact gx_none
  | succ n ih => exact gbX11_ask_57 k30 hk30 k44 hk44 (fX11_ask_57 k30 k44 n) ih
set_option maxRecDepth 100000 in
set_option maxHeartbeats 4000000 in
theorem gbX11_ask_44 {E : gx_Env} {d : Nat} (k30 : Nat → Int32 → Int32 → Int32 → Int32 → gx_H → Option (Int32 × gx_H)) (hk30 : ∀ (v0 : Nat) (v2 : Int32) (v3 : Int32) (v4 : Int32) (v5 : Int32) (h : gx_H), gx_G E RX11 cX11_ask 11 (some .int) false (d + 4) 0 0 30 [some (.ref v0), none, some (.int v2), some (.int v3), some (.int v4), some (.int v5), none, none, none, none, none] [] h (fun x : Int32 => some (.int x)) (k30 v0 v2 v3 v4 v5 h))  (k44 : Nat → Int32 → Int32 → Int32 → Int32 → Int32 → gx_H → Option (Int32 × gx_H)) (hk44 : ∀ (v0 : Nat) (v2 : Int32) (v3 : Int32) (v4 : Int32) (v5 : Int32) (v6 : Int32) (h : gx_H), gx_G E RX11 cX11_ask 11 (some .int) false (d + 4) 0 0 44 [some (.ref v0), none, some (.int v2), some (.int v3), some (.int v4), some (.int v5), some (.int v6), none, none, none, none] [] h (fun x : Int32 => some (.int x)) (k44 v0 v2 v3 v4 v5 v6 h))  : ∀ (v0 : Nat) (v2 : Int32) (v3 : Int32) (v4 : Int32) (v5 : Int32) (v6 : Int32) (h : gx_H), gx_G E RX11 cX11_ask 11 (some .int) false (d + 4) 0 0 44 [some (.ref v0), none, some (.int v2), some (.int v3), some (.int v4), some (.int v5), some (.int v6), none, none, none, none] [] h (fun x : Int32 => some (.int x)) (bX11_ask_44 k30 k44 v0 v2 v3 v4 v5 v6 h) := by
  intro v0 v2 v3 v4 v5 v6 h
  unfold bX11_ask_44
  refine gx_iload dX11_ask_44 rfl ?_
  refine gx_bipush (6 : Int32) dX11_ask_46 (by decide) ?_
  refine gx_icmp_gt 208 dX11_ask_48 (by decide) (fun _ => ?_) (fun _ => ?_)
  · refine gx_iinc (1 : Int32) [some (.ref v0), none, some (.int v2), some (.int v3), some (.int v4), some (.int (v5 + (1 : Int32))), some (.int v6), none, none, none, none] dX11_ask_208 rfl (by decide) (by decide) rfl ?_
    refine gx_goto 30 dX11_ask_211 (by decide) ?_
    exact gx_sub (hk30 v0 v2 v3 v4 (v5 + (1 : Int32)) h) (And.intro rfl (And.intro rfl (And.intro rfl (And.intro rfl (And.intro rfl True.intro)))))
  · refine gx_iconst (0 : Int32) dX11_ask_51 (by decide) ?_
    refine gx_istore [some (.ref v0), none, some (.int v2), some (.int v3), some (.int v4), some (.int v5), some (.int v6), some (.int (0 : Int32)), none, none, none] dX11_ask_52 (by decide) rfl ?_
    refine gx_iconst (0 : Int32) dX11_ask_54 (by decide) ?_
    refine gx_istore [some (.ref v0), none, some (.int v2), some (.int v3), some (.int v4), some (.int v5), some (.int v6), some (.int (0 : Int32)), some (.int (0 : Int32)), none, none] dX11_ask_55 (by decide) rfl ?_
    exact gx_sub (gX11_ask_57 k30 hk30 k44 hk44 gx_N v0 v2 v3 v4 v5 v6 (0 : Int32) (0 : Int32) h) (And.intro rfl (And.intro rfl (And.intro rfl (And.intro rfl (And.intro rfl (And.intro rfl (And.intro rfl (And.intro rfl True.intro))))))))
set_option maxRecDepth 100000 in
set_option maxHeartbeats 4000000 in
theorem gX11_ask_44 {E : gx_Env} {d : Nat} (k30 : Nat → Int32 → Int32 → Int32 → Int32 → gx_H → Option (Int32 × gx_H)) (hk30 : ∀ (v0 : Nat) (v2 : Int32) (v3 : Int32) (v4 : Int32) (v5 : Int32) (h : gx_H), gx_G E RX11 cX11_ask 11 (some .int) false (d + 4) 0 0 30 [some (.ref v0), none, some (.int v2), some (.int v3), some (.int v4), some (.int v5), none, none, none, none, none] [] h (fun x : Int32 => some (.int x)) (k30 v0 v2 v3 v4 v5 h))  : ∀ (n : Nat) (v0 : Nat) (v2 : Int32) (v3 : Int32) (v4 : Int32) (v5 : Int32) (v6 : Int32) (h : gx_H), gx_G E RX11 cX11_ask 11 (some .int) false (d + 4) 0 0 44 [some (.ref v0), none, some (.int v2), some (.int v3), some (.int v4), some (.int v5), some (.int v6), none, none, none, none] [] h (fun x : Int32 => some (.int x)) (fX11_ask_44 k30 n v0 v2 v3 v4 v5 v6 h) := by
  intro n
  induction n with
  | zero => intro v0 v2 v3 v4 v5 v6 h; exact gx_none
  | succ n ih => exact gbX11_ask_44 k30 hk30 (fX11_ask_44 k30 n) ih
set_option maxRecDepth 100000 in
set_option maxHeartbeats 4000000 in
theorem gX11_ask_223 {E : gx_Env} {d : Nat}  : ∀ (s0 : Int32) (h : gx_H), gx_G E RX11 cX11_ask 11 (some .int) false (d + 4) 0 0 223 [none, none, none, none, none, none, none, none, none, none, none] [.int s0] h (fun x : Int32 => some (.int x)) (fX11_ask_223 s0 h) := by
  intro s0 h
  unfold fX11_ask_223
  exact gx_iret dX11_ask_223 rfl
set_option maxRecDepth 100000 in
set_option maxHeartbeats 4000000 in
theorem gbX11_ask_30 {E : gx_Env} {d : Nat}  (k30 : Nat → Int32 → Int32 → Int32 → Int32 → gx_H → Option (Int32 × gx_H)) (hk30 : ∀ (v0 : Nat) (v2 : Int32) (v3 : Int32) (v4 : Int32) (v5 : Int32) (h : gx_H), gx_G E RX11 cX11_ask 11 (some .int) false (d + 4) 0 0 30 [some (.ref v0), none, some (.int v2), some (.int v3), some (.int v4), some (.int v5), none, none, none, none, none] [] h (fun x : Int32 => some (.int x)) (k30 v0 v2 v3 v4 v5 h))  : ∀ (v0 : Nat) (v2 : Int32) (v3 : Int32) (v4 : Int32) (v5 : Int32) (h : gx_H), gx_G E RX11 cX11_ask 11 (some .int) false (d + 4) 0 0 30 [some (.ref v0), none, some (.int v2), some (.int v3), some (.int v4), some (.int v5), none, none, none, none, none] [] h (fun x : Int32 => some (.int x)) (bX11_ask_30 k30 v0 v2 v3 v4 v5 h) := by
  intro v0 v2 v3 v4 v5 h
  unfold bX11_ask_30
  refine gx_iload dX11_ask_30 rfl ?_
  refine gx_aload_n 0 dX11_ask_32 rfl rfl ?_
  refine gx_getR kf_RX11_7 dX11_ask_33 (fun a7 => ?_)
  refine gx_iconst (0 : Int32) dX11_ask_36 (by decide) ?_
  refine gx_iald dX11_ask_37 (fun x8 => ?_)
  refine gx_icmp_ge 214 dX11_ask_38 (by decide) (fun _ => ?_) (fun _ => ?_)
  · refine gx_iload_n 2 dX11_ask_214 rfl rfl ?_
    refine gx_if_ne 222 dX11_ask_215 (by decide) (fun _ => ?_) (fun _ => ?_)
    · refine gx_iload_n 3 dX11_ask_222 rfl rfl ?_
      exact gx_sub (gX11_ask_223 v3 h) True.intro
    · refine gx_iconst (-1 : Int32) dX11_ask_218 (by decide) ?_
      refine gx_goto 223 dX11_ask_219 (by decide) ?_
      exact gx_sub (gX11_ask_223 (-1 : Int32) h) True.intro
  · refine gx_iconst (1 : Int32) dX11_ask_41 (by decide) ?_
    refine gx_istore [some (.ref v0), none, some (.int v2), some (.int v3), some (.int v4), some (.int v5), some (.int (1 : Int32)), none, none, none, none] dX11_ask_42 (by decide) rfl ?_
    exact gx_sub (gX11_ask_44 k30 hk30 gx_N v0 v2 v3 v4 v5 (1 : Int32) h) (And.intro rfl (And.intro rfl (And.intro rfl (And.intro rfl (And.intro rfl (And.intro rfl True.intro))))))
set_option maxRecDepth 100000 in
set_option maxHeartbeats 4000000 in
theorem gX11_ask_30 {E : gx_Env} {d : Nat}  : ∀ (n : Nat) (v0 : Nat) (v2 : Int32) (v3 : Int32) (v4 : Int32) (v5 : Int32) (h : gx_H), gx_G E RX11 cX11_ask 11 (some .int) false (d + 4) 0 0 30 [some (.ref v0), none, some (.int v2), some (.int v3), some (.int v4), some (.int v5), none, none, none, none, none] [] h (fun x : Int32 => some (.int x)) (fX11_ask_30 n v0 v2 v3 v4 v5 h) := by
  intro n
  induction n with
  | zero => intro v0 v2 v3 v4 v5 h; exact gx_none
  | succ n ih => exact gbX11_ask_30  (fX11_ask_30  n) ih
set_option maxRecDepth 100000 in
set_option maxHeartbeats 4000000 in
theorem geX11_ask {E : gx_Env} {d : Nat} (v0 : Nat) (v1 : Int32) (h : gx_H) : gx_G E RX11 cX11_ask 11 (some .int) false (d + 4) 0 0 0 [some (.ref v0), some (.int v1), none, none, none, none, none, none, none, none, none] [] h (fun x : Int32 => some (.int x)) (fX11_ask v0 v1 h) := by
  unfold fX11_ask
  refine gx_bind fun _ _ => ?_
  refine gx_aload_n 0 dX11_ask_0 rfl rfl ?_
  refine gx_iload_n 1 dX11_ask_1 rfl rfl ?_
  refine gx_callV (ci := 9) (bc := 0) (bs := 0) (mc := 0) (ms := 0) (em' := (fun x : Int32 => some (.int x))) [.int v1] kc_RX11_185 rfl dX11_ask_2 rfl rfl (gx_w8 rfl) (fun x q => (gx_isO_of (by unfold fX11_isPlayer at q; exact q)).2) (fun _ _ q => okX11_isPlayer (d + 2) q) (fun x2 h1 => ?_)
  refine gx_if_ne 15 dX11_ask_5 (by decide) (fun _ => ?_) (fun _ => ?_)
  · refine gx_aload_n 0 dX11_ask_15 rfl rfl ?_
    refine gx_iload_n 1 dX11_ask_16 rfl rfl ?_
    refine gx_callV (ci := 9) (bc := 0) (bs := 0) (mc := 0) (ms := 0) (em' := (fun x : Int32 => some (.int x))) [.int v1] kc_RX11_236 rfl dX11_ask_17 rfl rfl (gx_w8 rfl) (fun x q => (gx_isO_of (by unfold fX11_whatOf at q; exact q)).2) (fun _ _ q => okX11_whatOf d q) (fun x4 h3 => ?_)
    refine gx_istore_n 2 [some (.ref v0), some (.int v1), some (.int x4), none, none, none, none, none, none, none, none] dX11_ask_20 rfl (by decide) rfl ?_
    refine gx_iconst (-1 : Int32) dX11_ask_21 (by decide) ?_
    refine gx_istore_n 3 [some (.ref v0), some (.int v1), some (.int x4), some (.int (-1 : Int32)), none, none, none, none, none, none, none] dX11_ask_22 rfl (by decide) rfl ?_
    refine gx_ldc kk_RX11_232 dX11_ask_23 ?_
    refine gx_istore [some (.ref v0), some (.int v1), some (.int x4), some (.int (-1 : Int32)), some (.int (1000000 : Int32)), none, none, none, none, none, none] dX11_ask_25 (by decide) rfl ?_
    refine gx_iconst (0 : Int32) dX11_ask_27 (by decide) ?_
    refine gx_istore [some (.ref v0), some (.int v1), some (.int x4), some (.int (-1 : Int32)), some (.int (1000000 : Int32)), some (.int (0 : Int32)), none, none, none, none, none] dX11_ask_28 (by decide) rfl ?_
    exact gx_sub (gX11_ask_30 gx_N v0 x4 (-1 : Int32) (1000000 : Int32) (0 : Int32) h3) (And.intro rfl (And.intro rfl (And.intro rfl (And.intro rfl (And.intro rfl True.intro)))))
  · refine gx_aload_n 0 dX11_ask_8 rfl rfl ?_
    refine gx_bipush (-2 : Int32) dX11_ask_9 (by decide) ?_
    refine gx_callV (ci := 9) (bc := 0) (bs := 0) (mc := 0) (ms := 0) (em' := (fun x : Int32 => some (.int x))) [.int (-2 : Int32)] kc_RX11_81 rfl dX11_ask_11 rfl rfl (gx_w8 rfl) (fun x q => (gx_isO_of (by unfold fX11_bad at q; exact q)).2) (fun _ _ q => okX11_bad (d + 3) q) (fun x6 h5 => ?_)
    exact gx_iret dX11_ask_14 rfl
theorem okX11_ask {E : gx_Env} (d : Nat) {v0 : Nat} {v1 : Int32} {h : gx_H} {r : Int32} {h1 : gx_H} (q : fX11_ask v0 v1 h = some (r, h1)) : gx_M E yX11_ask cX11_ask 11 (some .int) (d + 4) 0 0 [.ref v0, .int v1] h ((fun x : Int32 => some (.int x)) r) h1 := gx_meth (y := yX11_ask) (cc := cX11_ask) (nL := 11) (em := (fun x : Int32 => some (.int x))) (ini := false) [.ref v0, .int v1] (by decide) (by simp [gx_sl]) (fun q => by cases q) (geX11_ask v0 v1 h) q
theorem dX11_gains_0 : decode cX11_gains 0 = .ok (.iconst 1, 1) := by decide +kernel
theorem dX11_gains_1 : decode cX11_gains 1 = .ok (.istore_n 3, 1) := by decide +kernel
theorem dX11_gains_2 : decode cX11_gains 2 = .ok (.iload_n 3, 1) := by decide +kernel
theorem dX11_gains_3 : decode cX11_gains 3 = .ok (.aload_n 0, 1) := by decide +kernel
theorem dX11_gains_4 : decode cX11_gains 4 = .ok (.getfield 7, 3) := by decide +kernel
theorem dX11_gains_7 : decode cX11_gains 7 = .ok (.iconst 1, 1) := by decide +kernel
theorem dX11_gains_8 : decode cX11_gains 8 = .ok (.iaload, 1) := by decide +kernel
theorem dX11_gains_9 : decode cX11_gains 9 = .ok (.if_icmp .gt 173, 3) := by decide +kernel
theorem dX11_gains_12 : decode cX11_gains 12 = .ok (.iconst 1, 1) := by decide +kernel
theorem dX11_gains_13 : decode cX11_gains 13 = .ok (.istore 4, 2) := by decide +kernel
theorem dX11_gains_15 : decode cX11_gains 15 = .ok (.iload 4, 2) := by decide +kernel
theorem dX11_gains_17 : decode cX11_gains 17 = .ok (.aload_n 0, 1) := by decide +kernel
theorem dX11_gains_18 : decode cX11_gains 18 = .ok (.getfield 7, 3) := by decide +kernel
theorem dX11_gains_21 : decode cX11_gains 21 = .ok (.iconst 1, 1) := by decide +kernel
theorem dX11_gains_22 : decode cX11_gains 22 = .ok (.iaload, 1) := by decide +kernel
theorem dX11_gains_23 : decode cX11_gains 23 = .ok (.if_icmp .gt 153, 3) := by decide +kernel
theorem dX11_gains_26 : decode cX11_gains 26 = .ok (.aload_n 0, 1) := by decide +kernel
theorem dX11_gains_27 : decode cX11_gains 27 = .ok (.invokevirtual 208, 3) := by decide +kernel
theorem dX11_gains_30 : decode cX11_gains 30 = .ok (.aload_n 0, 1) := by decide +kernel
theorem dX11_gains_31 : decode cX11_gains 31 = .ok (.iload_n 1, 1) := by decide +kernel
theorem dX11_gains_32 : decode cX11_gains 32 = .ok (.iload_n 3, 1) := by decide +kernel
theorem dX11_gains_33 : decode cX11_gains 33 = .ok (.invokevirtual 205, 3) := by decide +kernel
theorem dX11_gains_36 : decode cX11_gains 36 = .ok (.aload_n 0, 1) := by decide +kernel
theorem dX11_gains_37 : decode cX11_gains 37 = .ok (.iload_n 2, 1) := by decide +kernel
theorem dX11_gains_38 : decode cX11_gains 38 = .ok (.iload 4, 2) := by decide +kernel
theorem dX11_gains_40 : decode cX11_gains 40 = .ok (.invokevirtual 205, 3) := by decide +kernel
theorem dX11_gains_43 : decode cX11_gains 43 = .ok (.aload_n 0, 1) := by decide +kernel
theorem dX11_gains_44 : decode cX11_gains 44 = .ok (.getfield 7, 3) := by decide +kernel
theorem dX11_gains_47 : decode cX11_gains 47 = .ok (.sipush 844, 3) := by decide +kernel
theorem dX11_gains_50 : decode cX11_gains 50 = .ok (.iload_n 1, 1) := by decide +kernel
theorem dX11_gains_51 : decode cX11_gains 51 = .ok (.iadd, 1) := by decide +kernel
theorem dX11_gains_52 : decode cX11_gains 52 = .ok (.iaload, 1) := by decide +kernel
theorem dX11_gains_53 : decode cX11_gains 53 = .ok (.istore 5, 2) := by decide +kernel
theorem dX11_gains_55 : decode cX11_gains 55 = .ok (.aload_n 0, 1) := by decide +kernel
theorem dX11_gains_56 : decode cX11_gains 56 = .ok (.getfield 7, 3) := by decide +kernel
theorem dX11_gains_59 : decode cX11_gains 59 = .ok (.sipush 844, 3) := by decide +kernel
theorem dX11_gains_62 : decode cX11_gains 62 = .ok (.iload_n 2, 1) := by decide +kernel
theorem dX11_gains_63 : decode cX11_gains 63 = .ok (.iadd, 1) := by decide +kernel
theorem dX11_gains_64 : decode cX11_gains 64 = .ok (.iaload, 1) := by decide +kernel
theorem dX11_gains_65 : decode cX11_gains 65 = .ok (.istore 6, 2) := by decide +kernel
theorem dX11_gains_67 : decode cX11_gains 67 = .ok (.iload_n 3, 1) := by decide +kernel
theorem dX11_gains_68 : decode cX11_gains 68 = .ok (.iload 4, 2) := by decide +kernel
theorem dX11_gains_70 : decode cX11_gains 70 = .ok (.if_icmp .ne 7, 3) := by decide +kernel
theorem dX11_gains_73 : decode cX11_gains 73 = .ok (.iconst 3, 1) := by decide +kernel
theorem dX11_gains_74 : decode cX11_gains 74 = .ok (.goto 4, 3) := by decide +kernel
theorem dX11_gains_77 : decode cX11_gains 77 = .ok (.iconst 0, 1) := by decide +kernel
theorem dX11_gains_78 : decode cX11_gains 78 = .ok (.istore 7, 2) := by decide +kernel
theorem dX11_gains_80 : decode cX11_gains 80 = .ok (.aload_n 0, 1) := by decide +kernel
theorem dX11_gains_81 : decode cX11_gains 81 = .ok (.getfield 33, 3) := by decide +kernel
theorem dX11_gains_84 : decode cX11_gains 84 = .ok (.bipush 7, 2) := by decide +kernel
theorem dX11_gains_86 : decode cX11_gains 86 = .ok (.iload_n 3, 1) := by decide +kernel
theorem dX11_gains_87 : decode cX11_gains 87 = .ok (.imul, 1) := by decide +kernel
theorem dX11_gains_88 : decode cX11_gains 88 = .ok (.iload 4, 2) := by decide +kernel
theorem dX11_gains_90 : decode cX11_gains 90 = .ok (.iadd, 1) := by decide +kernel
theorem dX11_gains_91 : decode cX11_gains 91 = .ok (.aload_n 0, 1) := by decide +kernel
theorem dX11_gains_92 : decode cX11_gains 92 = .ok (.sipush 812, 3) := by decide +kernel
theorem dX11_gains_95 : decode cX11_gains 95 = .ok (.iload_n 1, 1) := by decide +kernel
theorem dX11_gains_96 : decode cX11_gains 96 = .ok (.invokevirtual 57, 3) := by decide +kernel
theorem dX11_gains_99 : decode cX11_gains 99 = .ok (.ifCond .eq 8, 3) := by decide +kernel
theorem dX11_gains_102 : decode cX11_gains 102 = .ok (.bipush 10, 2) := by decide +kernel
theorem dX11_gains_104 : decode cX11_gains 104 = .ok (.goto 4, 3) := by decide +kernel
theorem dX11_gains_107 : decode cX11_gains 107 = .ok (.iconst 0, 1) := by decide +kernel
theorem dX11_gains_108 : decode cX11_gains 108 = .ok (.iload 5, 2) := by decide +kernel
theorem dX11_gains_110 : decode cX11_gains 110 = .ok (.iload 6, 2) := by decide +kernel
theorem dX11_gains_112 : decode cX11_gains 112 = .ok (.if_icmp .le 7, 3) := by decide +kernel
theorem dX11_gains_115 : decode cX11_gains 115 = .ok (.iconst 1, 1) := by decide +kernel
theorem dX11_gains_116 : decode cX11_gains 116 = .ok (.goto 4, 3) := by decide +kernel
theorem dX11_gains_119 : decode cX11_gains 119 = .ok (.iconst 0, 1) := by decide +kernel
theorem dX11_gains_120 : decode cX11_gains 120 = .ok (.iadd, 1) := by decide +kernel
theorem dX11_gains_121 : decode cX11_gains 121 = .ok (.iload 7, 2) := by decide +kernel
theorem dX11_gains_123 : decode cX11_gains 123 = .ok (.isub, 1) := by decide +kernel
theorem dX11_gains_124 : decode cX11_gains 124 = .ok (.iastore, 1) := by decide +kernel
theorem dX11_gains_125 : decode cX11_gains 125 = .ok (.aload_n 0, 1) := by decide +kernel
theorem dX11_gains_126 : decode cX11_gains 126 = .ok (.getfield 36, 3) := by decide +kernel
theorem dX11_gains_129 : decode cX11_gains 129 = .ok (.bipush 7, 2) := by decide +kernel
theorem dX11_gains_131 : decode cX11_gains 131 = .ok (.iload_n 3, 1) := by decide +kernel
theorem dX11_gains_132 : decode cX11_gains 132 = .ok (.imul, 1) := by decide +kernel
theorem dX11_gains_133 : decode cX11_gains 133 = .ok (.iload 4, 2) := by decide +kernel
theorem dX11_gains_135 : decode cX11_gains 135 = .ok (.iadd, 1) := by decide +kernel
theorem dX11_gains_136 : decode cX11_gains 136 = .ok (.aload_n 0, 1) := by decide +kernel
theorem dX11_gains_137 : decode cX11_gains 137 = .ok (.sipush 812, 3) := by decide +kernel
theorem dX11_gains_140 : decode cX11_gains 140 = .ok (.iload_n 2, 1) := by decide +kernel
theorem dX11_gains_141 : decode cX11_gains 141 = .ok (.invokevirtual 57, 3) := by decide +kernel
theorem dX11_gains_144 : decode cX11_gains 144 = .ok (.ifCond .eq 8, 3) := by decide +kernel
theorem dX11_gains_147 : decode cX11_gains 147 = .ok (.bipush 10, 2) := by decide +kernel
theorem dX11_gains_149 : decode cX11_gains 149 = .ok (.goto 4, 3) := by decide +kernel
theorem dX11_gains_152 : decode cX11_gains 152 = .ok (.iconst 0, 1) := by decide +kernel
theorem dX11_gains_153 : decode cX11_gains 153 = .ok (.iload 6, 2) := by decide +kernel
theorem dX11_gains_155 : decode cX11_gains 155 = .ok (.iload 5, 2) := by decide +kernel
theorem dX11_gains_157 : decode cX11_gains 157 = .ok (.if_icmp .le 7, 3) := by decide +kernel
theorem dX11_gains_160 : decode cX11_gains 160 = .ok (.iconst 1, 1) := by decide +kernel
theorem dX11_gains_161 : decode cX11_gains 161 = .ok (.goto 4, 3) := by decide +kernel
theorem dX11_gains_164 : decode cX11_gains 164 = .ok (.iconst 0, 1) := by decide +kernel
theorem dX11_gains_165 : decode cX11_gains 165 = .ok (.iadd, 1) := by decide +kernel
theorem dX11_gains_166 : decode cX11_gains 166 = .ok (.iload 7, 2) := by decide +kernel
theorem dX11_gains_168 : decode cX11_gains 168 = .ok (.isub, 1) := by decide +kernel
theorem dX11_gains_169 : decode cX11_gains 169 = .ok (.iastore, 1) := by decide +kernel
theorem dX11_gains_170 : decode cX11_gains 170 = .ok (.iinc 4 1, 3) := by decide +kernel
theorem dX11_gains_173 : decode cX11_gains 173 = .ok (.goto (-158), 3) := by decide +kernel
theorem dX11_gains_176 : decode cX11_gains 176 = .ok (.iinc 3 1, 3) := by decide +kernel
theorem dX11_gains_179 : decode cX11_gains 179 = .ok (.goto (-177), 3) := by decide +kernel
theorem dX11_gains_182 : decode cX11_gains 182 = .ok (.return_, 1) := by decide +kernel
def fX11_gains_165 (k2 : Nat → Int32 → Int32 → Int32 → gx_H → Option (Unit × gx_H)) (k15 : Nat → Int32 → Int32 → Int32 → Int32 → gx_H → Option (Unit × gx_H)) (v0 : Nat) (v1 : Int32) (v2 : Int32) (v3 : Int32) (v4 : Int32) (v7 : Int32) (s0 : Nat) (s1 : Int32) (s2 : Int32) (s3 : Int32) (h : gx_H) : Option (Unit × gx_H) :=
  (gx_sI 0 h s0 s1 ((s2 + s3) - v7)).bind fun h22 =>
  k15 v0 v1 v2 v3 (v4 + (1 : Int32)) h22
def fX11_gains_153 (k2 : Nat → Int32 → Int32 → Int32 → gx_H → Option (Unit × gx_H)) (k15 : Nat → Int32 → Int32 → Int32 → Int32 → gx_H → Option (Unit × gx_H)) (v0 : Nat) (v1 : Int32) (v2 : Int32) (v3 : Int32) (v4 : Int32) (v5 : Int32) (v6 : Int32) (v7 : Int32) (s0 : Nat) (s1 : Int32) (s2 : Int32) (h : gx_H) : Option (Unit × gx_H) :=
  if v6 ≤ v5 then
    fX11_gains_165 k2 k15 v0 v1 v2 v3 v4 v7 s0 s1 s2 (0 : Int32) h
  else
    fX11_gains_165 k2 k15 v0 v1 v2 v3 v4 v7 s0 s1 s2 (1 : Int32) h
def fX11_gains_120 (k2 : Nat → Int32 → Int32 → Int32 → gx_H → Option (Unit × gx_H)) (k15 : Nat → Int32 → Int32 → Int32 → Int32 → gx_H → Option (Unit × gx_H)) (v0 : Nat) (v1 : Int32) (v2 : Int32) (v3 : Int32) (v4 : Int32) (v5 : Int32) (v6 : Int32) (v7 : Int32) (s0 : Nat) (s1 : Int32) (s2 : Int32) (s3 : Int32) (h : gx_H) : Option (Unit × gx_H) :=
  (gx_sI 0 h s0 s1 ((s2 + s3) - v7)).bind fun h18 =>
  (gx_fR h18 v0 9 12).bind fun a19 =>
  gx_bd (fX11_isHome v0 (812 : Int32) v2 h18) fun x21 h20 =>
  if x21 = 0 then
    fX11_gains_153 k2 k15 v0 v1 v2 v3 v4 v5 v6 v7 a19 (((7 : Int32) * v3) + v4) (0 : Int32) h20
  else
    fX11_gains_153 k2 k15 v0 v1 v2 v3 v4 v5 v6 v7 a19 (((7 : Int32) * v3) + v4) (10 : Int32) h20
def fX11_gains_108 (k2 : Nat → Int32 → Int32 → Int32 → gx_H → Option (Unit × gx_H)) (k15 : Nat → Int32 → Int32 → Int32 → Int32 → gx_H → Option (Unit × gx_H)) (v0 : Nat) (v1 : Int32) (v2 : Int32) (v3 : Int32) (v4 : Int32) (v5 : Int32) (v6 : Int32) (v7 : Int32) (s0 : Nat) (s1 : Int32) (s2 : Int32) (h : gx_H) : Option (Unit × gx_H) :=
  if v5 ≤ v6 then
    fX11_gains_120 k2 k15 v0 v1 v2 v3 v4 v5 v6 v7 s0 s1 s2 (0 : Int32) h
  else
    fX11_gains_120 k2 k15 v0 v1 v2 v3 v4 v5 v6 v7 s0 s1 s2 (1 : Int32) h
def fX11_gains_78 (k2 : Nat → Int32 → Int32 → Int32 → gx_H → Option (Unit × gx_H)) (k15 : Nat → Int32 → Int32 → Int32 → Int32 → gx_H → Option (Unit × gx_H)) (v0 : Nat) (v1 : Int32) (v2 : Int32) (v3 : Int32) (v4 : Int32) (v5 : Int32) (v6 : Int32) (s0 : Int32) (h : gx_H) : Option (Unit × gx_H) :=
  (gx_fR h v0 9 11).bind fun a15 =>
  gx_bd (fX11_isHome v0 (812 : Int32) v1 h) fun x17 h16 =>
  if x17 = 0 then
    fX11_gains_108 k2 k15 v0 v1 v2 v3 v4 v5 v6 s0 a15 (((7 : Int32) * v3) + v4) (0 : Int32) h16
  else
    fX11_gains_108 k2 k15 v0 v1 v2 v3 v4 v5 v6 s0 a15 (((7 : Int32) * v3) + v4) (10 : Int32) h16
def bX11_gains_15 (k2 : Nat → Int32 → Int32 → Int32 → gx_H → Option (Unit × gx_H)) (k15 : Nat → Int32 → Int32 → Int32 → Int32 → gx_H → Option (Unit × gx_H)) (v0 : Nat) (v1 : Int32) (v2 : Int32) (v3 : Int32) (v4 : Int32) (h : gx_H) : Option (Unit × gx_H) :=
  (gx_fR h v0 9 0).bind fun a3 =>
  (gx_aI 0 h a3 (1 : Int32)).bind fun x4 =>
  if x4 < v4 then
    k2 v0 v1 v2 (v3 + (1 : Int32)) h
  else
    gx_bd (fX11_tries v0 h) fun u6 h5 =>
    gx_bd (fX11_rollsTried v0 v1 v3 h5) fun u8 h7 =>
    gx_bd (fX11_rollsTried v0 v2 v4 h7) fun u10 h9 =>
    (gx_fR h9 v0 9 0).bind fun a11 =>
    (gx_aI 0 h9 a11 ((844 : Int32) + v1)).bind fun x12 =>
    (gx_fR h9 v0 9 0).bind fun a13 =>
    (gx_aI 0 h9 a13 ((844 : Int32) + v2)).bind fun x14 =>
    if v3 = v4 then
      fX11_gains_78 k2 k15 v0 v1 v2 v3 v4 x12 x14 (3 : Int32) h9
    else
      fX11_gains_78 k2 k15 v0 v1 v2 v3 v4 x12 x14 (0 : Int32) h9
def fX11_gains_15 (k2 : Nat → Int32 → Int32 → Int32 → gx_H → Option (Unit × gx_H)) : Nat → Nat → Int32 → Int32 → Int32 → Int32 → gx_H → Option (Unit × gx_H)
  | 0 => fun _ _ _ _ _ _ => none
  | n + 1 => bX11_gains_15 k2 (fX11_gains_15 k2 n)
def bX11_gains_2 (k2 : Nat → Int32 → Int32 → Int32 → gx_H → Option (Unit × gx_H)) (v0 : Nat) (v1 : Int32) (v2 : Int32) (v3 : Int32) (h : gx_H) : Option (Unit × gx_H) :=
  (gx_fR h v0 9 0).bind fun a1 =>
  (gx_aI 0 h a1 (1 : Int32)).bind fun x2 =>
  if x2 < v3 then
    some ((), h)
  else
    fX11_gains_15 k2 gx_N v0 v1 v2 v3 (1 : Int32) h
def fX11_gains_2 : Nat → Nat → Int32 → Int32 → Int32 → gx_H → Option (Unit × gx_H)
  | 0 => fun _ _ _ _ _ => none
  | n + 1 => bX11_gains_2 (fX11_gains_2 n)
def fX11_gains (v0 : Nat) (v1 : Int32) (v2 : Int32) (h : gx_H) : Option (Unit × gx_H) :=
  (gx_isO h v0 9).bind fun _ =>
  fX11_gains_2 gx_N v0 v1 v2 (1 : Int32) h
set_option maxRecDepth 100000 in
set_option maxHeartbeats 4000000 in
theorem gX11_gains_165 {E : gx_Env} {d : Nat} (k2 : Nat → Int32 → Int32 → Int32 → gx_H → Option (Unit × gx_H)) (hk2 : ∀ (v0 : Nat) (v1 : Int32) (v2 : Int32) (v3 : Int32) (h : gx_H), gx_G E RX11 cX11_gains 8 none false (d + 5) 0 0 2 [some (.ref v0), some (.int v1), some (.int v2), some (.int v3), none, none, none, none] [] h (fun _ : Unit => none) (k2 v0 v1 v2 v3 h))  (k15 : Nat → Int32 → Int32 → Int32 → Int32 → gx_H → Option (Unit × gx_H)) (hk15 : ∀ (v0 : Nat) (v1 : Int32) (v2 : Int32) (v3 : Int32) (v4 : Int32) (h : gx_H), gx_G E RX11 cX11_gains 8 none false (d + 5) 0 0 15 [some (.ref v0), some (.int v1), some (.int v2), some (.int v3), some (.int v4), none, none, none] [] h (fun _ : Unit => none) (k15 v0 v1 v2 v3 v4 h))  : ∀ (v0 : Nat) (v1 : Int32) (v2 : Int32) (v3 : Int32) (v4 : Int32) (v7 : Int32) (s0 : Nat) (s1 : Int32) (s2 : Int32) (s3 : Int32) (h : gx_H), gx_G E RX11 cX11_gains 8 none false (d + 5) 0 0 165 [some (.ref v0), some (.int v1), some (.int v2), some (.int v3), some (.int v4), none, none, some (.int v7)] [.int s3, .int s2, .int s1, .ref s0] h (fun _ : Unit => none) (fX11_gains_165 k2 k15 v0 v1 v2 v3 v4 v7 s0 s1 s2 s3 h) := by
  intro v0 v1 v2 v3 v4 v7 s0 s1 s2 s3 h
  unfold fX11_gains_165
  refine gx_iadd dX11_gains_165 ?_
  refine gx_iload dX11_gains_166 rfl ?_
  refine gx_isub dX11_gains_168 ?_
  refine gx_iast dX11_gains_169 (fun h22 => ?_)
  refine gx_iinc (1 : Int32) [some (.ref v0), some (.int v1), some (.int v2), some (.int v3), some (.int (v4 + (1 : Int32))), none, none, some (.int v7)] dX11_gains_170 rfl (by decide) (by decide) rfl ?_
  refine gx_goto 15 dX11_gains_173 (by decide) ?_
  exact gx_sub (hk15 v0 v1 v2 v3 (v4 + (1 : Int32)) h22) (And.intro rfl (And.intro rfl (And.intro rfl (And.intro rfl (And.intro rfl True.intro)))))
set_option maxRecDepth 100000 in
set_option maxHeartbeats 4000000 in
theorem gX11_gains_153 {E : gx_Env} {d : Nat} (k2 : Nat → Int32 → Int32 → Int32 → gx_H → Option (Unit × gx_H)) (hk2 : ∀ (v0 : Nat) (v1 : Int32) (v2 : Int32) (v3 : Int32) (h : gx_H), gx_G E RX11 cX11_gains 8 none false (d + 5) 0 0 2 [some (.ref v0), some (.int v1), some (.int v2), some (.int v3), none, none, none, none] [] h (fun _ : Unit => none) (k2 v0 v1 v2 v3 h))  (k15 : Nat → Int32 → Int32 → Int32 → Int32 → gx_H → Option (Unit × gx_H)) (hk15 : ∀ (v0 : Nat) (v1 : Int32) (v2 : Int32) (v3 : Int32) (v4 : Int32) (h : gx_H), gx_G E RX11 cX11_gains 8 none false (d + 5) 0 0 15 [some (.ref v0), some (.int v1), some (.int v2), some (.int v3), some (.int v4), none, none, none] [] h (fun _ : Unit => none) (k15 v0 v1 v2 v3 v4 h))  : ∀ (v0 : Nat) (v1 : Int32) (v2 : Int32) (v3 : Int32) (v4 : Int32) (v5 : Int32) (v6 : Int32) (v7 : Int32) (s0 : Nat) (s1 : Int32) (s2 : Int32) (h : gx_H), gx_G E RX11 cX11_gains 8 none false (d + 5) 0 0 153 [some (.ref v0), some (.int v1), some (.int v2), some (.int v3), some (.int v4), some (.int v5), some (.int v6), some (.int v7)] [.int s2, .int s1, .ref s0] h (fun _ : Unit => none) (fX11_gains_153 k2 k15 v0 v1 v2 v3 v4 v5 v6 v7 s0 s1 s2 h) := by
  intro v0 v1 v2 v3 v4 v5 v6 v7 s0 s1 s2 h
  unfold fX11_gains_153
  refine gx_iload dX11_gains_153 rfl ?_
  refine gx_iload dX11_gains_155 rfl ?_
  refine gx_icmp_le 164 dX11_gains_157 (by decide) (fun _ => ?_) (fun _ => ?_)
  · refine gx_iconst (0 : Int32) dX11_gains_164 (by decide) ?_
    exact gx_sub (gX11_gains_165 k2 hk2 k15 hk15 v0 v1 v2 v3 v4 v7 s0 s1 s2 (0 : Int32) h) (And.intro rfl (And.intro rfl (And.intro rfl (And.intro rfl (And.intro rfl (And.intro rfl True.intro))))))
  · refine gx_iconst (1 : Int32) dX11_gains_160 (by decide) ?_
    refine gx_goto 165 dX11_gains_161 (by decide) ?_
    exact gx_sub (gX11_gains_165 k2 hk2 k15 hk15 v0 v1 v2 v3 v4 v7 s0 s1 s2 (1 : Int32) h) (And.intro rfl (And.intro rfl (And.intro rfl (And.intro rfl (And.intro rfl (And.intro rfl True.intro))))))
set_option maxRecDepth 100000 in
set_option maxHeartbeats 4000000 in
theorem gX11_gains_120 {E : gx_Env} {d : Nat} (k2 : Nat → Int32 → Int32 → Int32 → gx_H → Option (Unit × gx_H)) (hk2 : ∀ (v0 : Nat) (v1 : Int32) (v2 : Int32) (v3 : Int32) (h : gx_H), gx_G E RX11 cX11_gains 8 none false (d + 5) 0 0 2 [some (.ref v0), some (.int v1), some (.int v2), some (.int v3), none, none, none, none] [] h (fun _ : Unit => none) (k2 v0 v1 v2 v3 h))  (k15 : Nat → Int32 → Int32 → Int32 → Int32 → gx_H → Option (Unit × gx_H)) (hk15 : ∀ (v0 : Nat) (v1 : Int32) (v2 : Int32) (v3 : Int32) (v4 : Int32) (h : gx_H), gx_G E RX11 cX11_gains 8 none false (d + 5) 0 0 15 [some (.ref v0), some (.int v1), some (.int v2), some (.int v3), some (.int v4), none, none, none] [] h (fun _ : Unit => none) (k15 v0 v1 v2 v3 v4 h))  : ∀ (v0 : Nat) (v1 : Int32) (v2 : Int32) (v3 : Int32) (v4 : Int32) (v5 : Int32) (v6 : Int32) (v7 : Int32) (s0 : Nat) (s1 : Int32) (s2 : Int32) (s3 : Int32) (h : gx_H), gx_G E RX11 cX11_gains 8 none false (d + 5) 0 0 120 [some (.ref v0), some (.int v1), some (.int v2), some (.int v3), some (.int v4), some (.int v5), some (.int v6), some (.int v7)] [.int s3, .int s2, .int s1, .ref s0] h (fun _ : Unit => none) (fX11_gains_120 k2 k15 v0 v1 v2 v3 v4 v5 v6 v7 s0 s1 s2 s3 h) := by
  intro v0 v1 v2 v3 v4 v5 v6 v7 s0 s1 s2 s3 h
  unfold fX11_gains_120
  refine gx_iadd dX11_gains_120 ?_
  refine gx_iload dX11_gains_121 rfl ?_
  refine gx_isub dX11_gains_123 ?_
  refine gx_iast dX11_gains_124 (fun h18 => ?_)
  refine gx_aload_n 0 dX11_gains_125 rfl rfl ?_
  refine gx_getR kf_RX11_36 dX11_gains_126 (fun a19 => ?_)
  refine gx_bipush (7 : Int32) dX11_gains_129 (by decide) ?_
  refine gx_iload_n 3 dX11_gains_131 rfl rfl ?_
  refine gx_imul dX11_gains_132 ?_
  refine gx_iload dX11_gains_133 rfl ?_
  refine gx_iadd dX11_gains_135 ?_
  refine gx_aload_n 0 dX11_gains_136 rfl rfl ?_
  refine gx_sipush (812 : Int32) dX11_gains_137 (by decide) ?_
  refine gx_iload_n 2 dX11_gains_140 rfl rfl ?_
  refine gx_callV (ci := 9) (bc := 0) (bs := 0) (mc := 0) (ms := 0) (em' := (fun x : Int32 => some (.int x))) [.int (812 : Int32), .int v2] kc_RX11_57 rfl dX11_gains_141 rfl rfl (gx_w8 rfl) (fun x q => (gx_isO_of (by unfold fX11_isHome at q; exact q)).2) (fun _ _ q => okX11_isHome (d + 4) q) (fun x21 h20 => ?_)
  refine gx_if_eq 152 dX11_gains_144 (by decide) (fun _ => ?_) (fun _ => ?_)
  · refine gx_iconst (0 : Int32) dX11_gains_152 (by decide) ?_
    exact gx_sub (gX11_gains_153 k2 hk2 k15 hk15 v0 v1 v2 v3 v4 v5 v6 v7 a19 (((7 : Int32) * v3) + v4) (0 : Int32) h20) (And.intro rfl (And.intro rfl (And.intro rfl (And.intro rfl (And.intro rfl (And.intro rfl (And.intro rfl (And.intro rfl True.intro))))))))
  · refine gx_bipush (10 : Int32) dX11_gains_147 (by decide) ?_
    refine gx_goto 153 dX11_gains_149 (by decide) ?_
    exact gx_sub (gX11_gains_153 k2 hk2 k15 hk15 v0 v1 v2 v3 v4 v5 v6 v7 a19 (((7 : Int32) * v3) + v4) (10 : Int32) h20) (And.intro rfl (And.intro rfl (And.intro rfl (And.intro rfl (And.intro rfl (And.intro rfl (And.intro rfl (And.intro rfl True.intro))))))))
set_option maxRecDepth 100000 in
set_option maxHeartbeats 4000000 in
theorem gX11_gains_108 {E : gx_Env} {d : Nat} (k2 : Nat → Int32 → Int32 → Int32 → gx_H → Option (Unit × gx_H)) (hk2 : ∀ (v0 : Nat) (v1 : Int32) (v2 : Int32) (v3 : Int32) (h : gx_H), gx_G E RX11 cX11_gains 8 none false (d + 5) 0 0 2 [some (.ref v0), some (.int v1), some (.int v2), some (.int v3), none, none, none, none] [] h (fun _ : Unit => none) (k2 v0 v1 v2 v3 h))  (k15 : Nat → Int32 → Int32 → Int32 → Int32 → gx_H → Option (Unit × gx_H)) (hk15 : ∀ (v0 : Nat) (v1 : Int32) (v2 : Int32) (v3 : Int32) (v4 : Int32) (h : gx_H), gx_G E RX11 cX11_gains 8 none false (d + 5) 0 0 15 [some (.ref v0), some (.int v1), some (.int v2), some (.int v3), some (.int v4), none, none, none] [] h (fun _ : Unit => none) (k15 v0 v1 v2 v3 v4 h))  : ∀ (v0 : Nat) (v1 : Int32) (v2 : Int32) (v3 : Int32) (v4 : Int32) (v5 : Int32) (v6 : Int32) (v7 : Int32) (s0 : Nat) (s1 : Int32) (s2 : Int32) (h : gx_H), gx_G E RX11 cX11_gains 8 none false (d + 5) 0 0 108 [some (.ref v0), some (.int v1), some (.int v2), some (.int v3), some (.int v4), some (.int v5), some (.int v6), some (.int v7)] [.int s2, .int s1, .ref s0] h (fun _ : Unit => none) (fX11_gains_108 k2 k15 v0 v1 v2 v3 v4 v5 v6 v7 s0 s1 s2 h) := by
  intro v0 v1 v2 v3 v4 v5 v6 v7 s0 s1 s2 h
  unfold fX11_gains_108
  refine gx_iload dX11_gains_108 rfl ?_
  refine gx_iload dX11_gains_110 rfl ?_
  refine gx_icmp_le 119 dX11_gains_112 (by decide) (fun _ => ?_) (fun _ => ?_)
  · refine gx_iconst (0 : Int32) dX11_gains_119 (by decide) ?_
    exact gx_sub (gX11_gains_120 k2 hk2 k15 hk15 v0 v1 v2 v3 v4 v5 v6 v7 s0 s1 s2 (0 : Int32) h) (And.intro rfl (And.intro rfl (And.intro rfl (And.intro rfl (And.intro rfl (And.intro rfl (And.intro rfl (And.intro rfl True.intro))))))))
  · refine gx_iconst (1 : Int32) dX11_gains_115 (by decide) ?_
    refine gx_goto 120 dX11_gains_116 (by decide) ?_
    exact gx_sub (gX11_gains_120 k2 hk2 k15 hk15 v0 v1 v2 v3 v4 v5 v6 v7 s0 s1 s2 (1 : Int32) h) (And.intro rfl (And.intro rfl (And.intro rfl (And.intro rfl (And.intro rfl (And.intro rfl (And.intro rfl (And.intro rfl True.intro))))))))
set_option maxRecDepth 100000 in
set_option maxHeartbeats 4000000 in
theorem gX11_gains_78 {E : gx_Env} {d : Nat} (k2 : Nat → Int32 → Int32 → Int32 → gx_H → Option (Unit × gx_H)) (hk2 : ∀ (v0 : Nat) (v1 : Int32) (v2 : Int32) (v3 : Int32) (h : gx_H), gx_G E RX11 cX11_gains 8 none false (d + 5) 0 0 2 [some (.ref v0), some (.int v1), some (.int v2), some (.int v3), none, none, none, none] [] h (fun _ : Unit => none) (k2 v0 v1 v2 v3 h))  (k15 : Nat → Int32 → Int32 → Int32 → Int32 → gx_H → Option (Unit × gx_H)) (hk15 : ∀ (v0 : Nat) (v1 : Int32) (v2 : Int32) (v3 : Int32) (v4 : Int32) (h : gx_H), gx_G E RX11 cX11_gains 8 none false (d + 5) 0 0 15 [some (.ref v0), some (.int v1), some (.int v2), some (.int v3), some (.int v4), none, none, none] [] h (fun _ : Unit => none) (k15 v0 v1 v2 v3 v4 h))  : ∀ (v0 : Nat) (v1 : Int32) (v2 : Int32) (v3 : Int32) (v4 : Int32) (v5 : Int32) (v6 : Int32) (s0 : Int32) (h : gx_H), gx_G E RX11 cX11_gains 8 none false (d + 5) 0 0 78 [some (.ref v0), some (.int v1), some (.int v2), some (.int v3), some (.int v4), some (.int v5), some (.int v6), none] [.int s0] h (fun _ : Unit => none) (fX11_gains_78 k2 k15 v0 v1 v2 v3 v4 v5 v6 s0 h) := by
  intro v0 v1 v2 v3 v4 v5 v6 s0 h
  unfold fX11_gains_78
  refine gx_istore [some (.ref v0), some (.int v1), some (.int v2), some (.int v3), some (.int v4), some (.int v5), some (.int v6), some (.int s0)] dX11_gains_78 (by decide) rfl ?_
  refine gx_aload_n 0 dX11_gains_80 rfl rfl ?_
  refine gx_getR kf_RX11_33 dX11_gains_81 (fun a15 => ?_)
  refine gx_bipush (7 : Int32) dX11_gains_84 (by decide) ?_
  refine gx_iload_n 3 dX11_gains_86 rfl rfl ?_
  refine gx_imul dX11_gains_87 ?_
  refine gx_iload dX11_gains_88 rfl ?_
  refine gx_iadd dX11_gains_90 ?_
  refine gx_aload_n 0 dX11_gains_91 rfl rfl ?_
  refine gx_sipush (812 : Int32) dX11_gains_92 (by decide) ?_
  refine gx_iload_n 1 dX11_gains_95 rfl rfl ?_
  refine gx_callV (ci := 9) (bc := 0) (bs := 0) (mc := 0) (ms := 0) (em' := (fun x : Int32 => some (.int x))) [.int (812 : Int32), .int v1] kc_RX11_57 rfl dX11_gains_96 rfl rfl (gx_w8 rfl) (fun x q => (gx_isO_of (by unfold fX11_isHome at q; exact q)).2) (fun _ _ q => okX11_isHome (d + 4) q) (fun x17 h16 => ?_)
  refine gx_if_eq 107 dX11_gains_99 (by decide) (fun _ => ?_) (fun _ => ?_)
  · refine gx_iconst (0 : Int32) dX11_gains_107 (by decide) ?_
    exact gx_sub (gX11_gains_108 k2 hk2 k15 hk15 v0 v1 v2 v3 v4 v5 v6 s0 a15 (((7 : Int32) * v3) + v4) (0 : Int32) h16) (And.intro rfl (And.intro rfl (And.intro rfl (And.intro rfl (And.intro rfl (And.intro rfl (And.intro rfl (And.intro rfl True.intro))))))))
  · refine gx_bipush (10 : Int32) dX11_gains_102 (by decide) ?_
    refine gx_goto 108 dX11_gains_104 (by decide) ?_
    exact gx_sub (gX11_gains_108 k2 hk2 k15 hk15 v0 v1 v2 v3 v4 v5 v6 s0 a15 (((7 : Int32) * v3) + v4) (10 : Int32) h16) (And.intro rfl (And.intro rfl (And.intro rfl (And.intro rfl (And.intro rfl (And.intro rfl (And.intro rfl (And.intro rfl True.intro))))))))
set_option maxRecDepth 100000 in
set_option maxHeartbeats 4000000 in
theorem gbX11_gains_15 {E : gx_Env} {d : Nat} (k2 : Nat → Int32 → Int32 → Int32 → gx_H → Option (Unit × gx_H)) (hk2 : ∀ (v0 : Nat) (v1 : Int32) (v2 : Int32) (v3 : Int32) (h : gx_H), gx_G E RX11 cX11_gains 8 none false (d + 5) 0 0 2 [some (.ref v0), some (.int v1), some (.int v2), some (.int v3), none, none, none, none] [] h (fun _ : Unit => none) (k2 v0 v1 v2 v3 h))  (k15 : Nat → Int32 → Int32 → Int32 → Int32 → gx_H → Option (Unit × gx_H)) (hk15 : ∀ (v0 : Nat) (v1 : Int32) (v2 : Int32) (v3 : Int32) (v4 : Int32) (h : gx_H), gx_G E RX11 cX11_gains 8 none false (d + 5) 0 0 15 [some (.ref v0), some (.int v1), some (.int v2), some (.int v3), some (.int v4), none, none, none] [] h (fun _ : Unit => none) (k15 v0 v1 v2 v3 v4 h))  : ∀ (v0 : Nat) (v1 : Int32) (v2 : Int32) (v3 : Int32) (v4 : Int32) (h : gx_H), gx_G E RX11 cX11_gains 8 none false (d + 5) 0 0 15 [some (.ref v0), some (.int v1), some (.int v2), some (.int v3), some (.int v4), none, none, none] [] h (fun _ : Unit => none) (bX11_gains_15 k2 k15 v0 v1 v2 v3 v4 h) := by
  intro v0 v1 v2 v3 v4 h
  unfold bX11_gains_15
  refine gx_iload dX11_gains_15 rfl ?_
  refine gx_aload_n 0 dX11_gains_17 rfl rfl ?_
  refine gx_getR kf_RX11_7 dX11_gains_18 (fun a3 => ?_)
  refine gx_iconst (1 : Int32) dX11_gains_21 (by decide) ?_
  refine gx_iald dX11_gains_22 (fun x4 => ?_)
  refine gx_icmp_gt 176 dX11_gains_23 (by decide) (fun _ => ?_) (fun _ => ?_)
  · refine gx_iinc (1 : Int32) [some (.ref v0), some (.int v1), some (.int v2), some (.int (v3 + (1 : Int32))), some (.int v4), none, none, none] dX11_gains_176 rfl (by decide) (by decide) rfl ?_
    refine gx_goto 2 dX11_gains_179 (by decide) ?_
    exact gx_sub (hk2 v0 v1 v2 (v3 + (1 : Int32)) h) (And.intro rfl (And.intro rfl (And.intro rfl (And.intro rfl True.intro))))
  · refine gx_aload_n 0 dX11_gains_26 rfl rfl ?_
    refine gx_callV (ci := 9) (bc := 0) (bs := 0) (mc := 0) (ms := 0) (em' := (fun _ : Unit => none)) [] kc_RX11_208 rfl dX11_gains_27 rfl rfl (gx_w8 rfl) (fun x q => (gx_isO_of (by unfold fX11_tries at q; exact q)).2) (fun _ _ q => okX11_tries (d + 4) q) (fun u6 h5 => ?_)
    refine gx_aload_n 0 dX11_gains_30 rfl rfl ?_
    refine gx_iload_n 1 dX11_gains_31 rfl rfl ?_
    refine gx_iload_n 3 dX11_gains_32 rfl rfl ?_
    refine gx_callV (ci := 9) (bc := 0) (bs := 0) (mc := 0) (ms := 0) (em' := (fun _ : Unit => none)) [.int v1, .int v3] kc_RX11_205 rfl dX11_gains_33 rfl rfl (gx_w8 rfl) (fun x q => (gx_isO_of (by unfold fX11_rollsTried at q; exact q)).2) (fun _ _ q => okX11_rollsTried d q) (fun u8 h7 => ?_)
    refine gx_aload_n 0 dX11_gains_36 rfl rfl ?_
    refine gx_iload_n 2 dX11_gains_37 rfl rfl ?_
    refine gx_iload dX11_gains_38 rfl ?_
    refine gx_callV (ci := 9) (bc := 0) (bs := 0) (mc := 0) (ms := 0) (em' := (fun _ : Unit => none)) [.int v2, .int v4] kc_RX11_205 rfl dX11_gains_40 rfl rfl (gx_w8 rfl) (fun x q => (gx_isO_of (by unfold fX11_rollsTried at q; exact q)).2) (fun _ _ q => okX11_rollsTried d q) (fun u10 h9 => ?_)
    refine gx_aload_n 0 dX11_gains_43 rfl rfl ?_
    refine gx_getR kf_RX11_7 dX11_gains_44 (fun a11 => ?_)
    refine gx_sipush (844 : Int32) dX11_gains_47 (by decide) ?_
    refine gx_iload_n 1 dX11_gains_50 rfl rfl ?_
    refine gx_iadd dX11_gains_51 ?_
    refine gx_iald dX11_gains_52 (fun x12 => ?_)
    refine gx_istore [some (.ref v0), some (.int v1), some (.int v2), some (.int v3), some (.int v4), some (.int x12), none, none] dX11_gains_53 (by decide) rfl ?_
    refine gx_aload_n 0 dX11_gains_55 rfl rfl ?_
    refine gx_getR kf_RX11_7 dX11_gains_56 (fun a13 => ?_)
    refine gx_sipush (844 : Int32) dX11_gains_59 (by decide) ?_
    refine gx_iload_n 2 dX11_gains_62 rfl rfl ?_
    refine gx_iadd dX11_gains_63 ?_
    refine gx_iald dX11_gains_64 (fun x14 => ?_)
    refine gx_istore [some (.ref v0), some (.int v1), some (.int v2), some (.int v3), some (.int v4), some (.int x12), some (.int x14), none] dX11_gains_65 (by decide) rfl ?_
    refine gx_iload_n 3 dX11_gains_67 rfl rfl ?_
    refine gx_iload dX11_gains_68 rfl ?_
    refine gx_icmp_ne 77 dX11_gains_70 (by decide) (fun _ => ?_) (fun _ => ?_)
    · refine gx_iconst (0 : Int32) dX11_gains_77 (by decide) ?_
      exact gx_sub (gX11_gains_78 k2 hk2 k15 hk15 v0 v1 v2 v3 v4 x12 x14 (0 : Int32) h9) (And.intro rfl (And.intro rfl (And.intro rfl (And.intro rfl (And.intro rfl (And.intro rfl (And.intro rfl True.intro)))))))
    · refine gx_iconst (3 : Int32) dX11_gains_73 (by decide) ?_
      refine gx_goto 78 dX11_gains_74 (by decide) ?_
      exact gx_sub (gX11_gains_78 k2 hk2 k15 hk15 v0 v1 v2 v3 v4 x12 x14 (3 : Int32) h9) (And.intro rfl (And.intro rfl (And.intro rfl (And.intro rfl (And.intro rfl (And.intro rfl (And.intro rfl True.intro)))))))
set_option maxRecDepth 100000 in
set_option maxHeartbeats 4000000 in
theorem gX11_gains_15 {E : gx_Env} {d : Nat} (k2 : Nat → Int32 → Int32 → Int32 → gx_H → Option (Unit × gx_H)) (hk2 : ∀ (v0 : Nat) (v1 : Int32) (v2 : Int32) (v3 : Int32) (h : gx_H), gx_G E RX11 cX11_gains 8 none false (d + 5) 0 0 2 [some (.ref v0), some (.int v1), some (.int v2), some (.int v3), none, none, none, none] [] h (fun _ : Unit => none) (k2 v0 v1 v2 v3 h))  : ∀ (n : Nat) (v0 : Nat) (v1 : Int32) (v2 : Int32) (v3 : Int32) (v4 : Int32) (h : gx_H), gx_G E RX11 cX11_gains 8 none false (d + 5) 0 0 15 [some (.ref v0), some (.int v1), some (.int v2), some (.int v3), some (.int v4), none, none, none] [] h (fun _ : Unit => none) (fX11_gains_15 k2 n v0 v1 v2 v3 v4 h) := by
  intro n
  induction n with
  | zero => intro v0 v1 v2 v3 v4 h; exact gx_none
  | succ n ih => exact gbX11_gains_15 k2 hk2 (fX11_gains_15 k2 n) ih
set_option maxRecDepth 100000 in
set_option maxHeartbeats 4000000 in
theorem gbX11_gains_2 {E : gx_Env} {d : Nat}  (k2 : Nat → Int32 → Int32 → Int32 → gx_H → Option (Unit × gx_H)) (hk2 : ∀ (v0 : Nat) (v1 : Int32) (v2 : Int32) (v3 : Int32) (h : gx_H), gx_G E RX11 cX11_gains 8 none false (d + 5) 0 0 2 [some (.ref v0), some (.int v1), some (.int v2), some (.int v3), none, none, none, none] [] h (fun _ : Unit => none) (k2 v0 v1 v2 v3 h))  : ∀ (v0 : Nat) (v1 : Int32) (v2 : Int32) (v3 : Int32) (h : gx_H), gx_G E RX11 cX11_gains 8 none false (d + 5) 0 0 2 [some (.ref v0), some (.int v1), some (.int v2), some (.int v3), none, none, none, none] [] h (fun _ : Unit => none) (bX11_gains_2 k2 v0 v1 v2 v3 h) := by
  intro v0 v1 v2 v3 h
  unfold bX11_gains_2
  refine gx_iload_n 3 dX11_gains_2 rfl rfl ?_
  refine gx_aload_n 0 dX11_gains_3 rfl rfl ?_
  refine gx_getR kf_RX11_7 dX11_gains_4 (fun a1 => ?_)
  refine gx_iconst (1 : Int32) dX11_gains_7 (by decide) ?_
  refine gx_iald dX11_gains_8 (fun x2 => ?_)
  refine gx_icmp_gt 182 dX11_gains_9 (by decide) (fun _ => ?_) (fun _ => ?_)
  · exact gx_vret dX11_gains_182 rfl
  · refine gx_iconst (1 : Int32) dX11_gains_12 (by decide) ?_
    refine gx_istore [some (.ref v0), some (.int v1), some (.int v2), some (.int v3), some (.int (1 : Int32)), none, none, none] dX11_gains_13 (by decide) rfl ?_
    exact gx_sub (gX11_gains_15 k2 hk2 gx_N v0 v1 v2 v3 (1 : Int32) h) (And.intro rfl (And.intro rfl (And.intro rfl (And.intro rfl (And.intro rfl True.intro)))))
set_option maxRecDepth 100000 in
set_option maxHeartbeats 4000000 in
theorem gX11_gains_2 {E : gx_Env} {d : Nat}  : ∀ (n : Nat) (v0 : Nat) (v1 : Int32) (v2 : Int32) (v3 : Int32) (h : gx_H), gx_G E RX11 cX11_gains 8 none false (d + 5) 0 0 2 [some (.ref v0), some (.int v1), some (.int v2), some (.int v3), none, none, none, none] [] h (fun _ : Unit => none) (fX11_gains_2 n v0 v1 v2 v3 h) := by
  intro n
  induction n with
  | zero => intro v0 v1 v2 v3 h; exact gx_none
  | succ n ih => exact gbX11_gains_2  (fX11_gains_2  n) ih
set_option maxRecDepth 100000 in
set_option maxHeartbeats 4000000 in
theorem geX11_gains {E : gx_Env} {d : Nat} (v0 : Nat) (v1 : Int32) (v2 : Int32) (h : gx_H) : gx_G E RX11 cX11_gains 8 none false (d + 5) 0 0 0 [some (.ref v0), some (.int v1), some (.int v2), none, none, none, none, none] [] h (fun _ : Unit => none) (fX11_gains v0 v1 v2 h) := by
  unfold fX11_gains
  refine gx_bind fun _ _ => ?_
  refine gx_iconst (1 : Int32) dX11_gains_0 (by decide) ?_
  refine gx_istore_n 3 [some (.ref v0), some (.int v1), some (.int v2), some (.int (1 : Int32)), none, none, none, none] dX11_gains_1 rfl (by decide) rfl ?_
  exact gx_sub (gX11_gains_2 gx_N v0 v1 v2 (1 : Int32) h) (And.intro rfl (And.intro rfl (And.intro rfl (And.intro rfl True.intro))))
theorem okX11_gains {E : gx_Env} (d : Nat) {v0 : Nat} {v1 : Int32} {v2 : Int32} {h : gx_H} {r : Unit} {h1 : gx_H} (q : fX11_gains v0 v1 v2 h = some (r, h1)) : gx_M E yX11_gains cX11_gains 8 none (d + 5) 0 0 [.ref v0, .int v1, .int v2] h ((fun _ : Unit => none) r) h1 := gx_meth (y := yX11_gains) (cc := cX11_gains) (nL := 8) (em := (fun _ : Unit => none)) (ini := false) [.ref v0, .int v1, .int v2] (by decide) (by simp [gx_sl]) (fun q => by cases q) (geX11_gains v0 v1 v2 h) q
