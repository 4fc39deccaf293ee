/-! what a frame stands on, what a method's end gives, and the judgement gx_G: from here, with these locals, this stack, these cells, the machine does what o says -/
def gx_F (E : gx_Env) (own : String) (cc : ByteArray) (nL : Nat) (d : Nat) (ini : Bool) (p : Program) (R : Room) (s : State) (m : MethodId) (args : Array Value) (meth : Method) (c : Code) : Prop :=
  p.tables.exec = Jvm.exec ∧ c.code = cc ∧ c.maxLocals = nL ∧ s.vm.findClass own = some m.cls ∧ (∀ w ∈ gx_tbl, w.before args s = true) ∧ gx_ok E s s.heap ∧ (d ≤ R.frames ∧ 64 * d ≤ R.locals) ∧ (ini = true → meth.name = "<init>") ∧ gx_b E ≤ s.heap.size
def gx_isret (cc : ByteArray) (rt : Option FieldType) (pc : Nat) : Option Value → Prop
  | some (.int x) => decode cc pc = .ok (.ireturn, 1) ∧ ∃ ty, rt = some ty ∧ narrow ty (.int x) = .int x
  | some (.long _) => decode cc pc = .ok (.lreturn, 1) ∧ rt = some .long
  | some (.ref _) => decode cc pc = .ok (.areturn, 1) ∧ ∃ ty, rt = some ty ∧ ((∃ n, ty = .object n) ∨ ∃ t, ty = .array t)
  | none => decode cc pc = .ok (.return_, 1) ∧ rt = none
  | _ => False
def gx_R (E : gx_Env) (cc : ByteArray) (rt : Option FieldType) (p : Program) (e : Env) (R : Room) (s : State) (m : MethodId) (args : Array Value) (below : List Frame) (meth : Method) (c : Code) (Q : State → Prop) (v : Option Value) (h' : gx_H) : Prop :=
  ∀ (H : Heap) (locs : List Loc) (cells slots pc : Nat) (ls : Array Slot), gx_P E h' H → va_S (gx_A E) s.heap H locs → cells ≤ R.cells → slots ≤ R.slots → gx_isret cc rt pc v → W p (gx_l E) e R s m args below meth c H locs cells slots Q (F0 m pc ls (v.toList.map (gx_v E)))
def gx_G (E : gx_Env) (own : String) (cc : ByteArray) (nL : Nat) (rt : Option FieldType) (ini : Bool) (d bc bs pc : Nat) (L : List (Option Value)) (st : List Value) (h : gx_H) {ρ : Type} (em : ρ → Option Value) (o : Option (ρ × gx_H)) : Prop :=
  ∀ (r : ρ) (h' : gx_H), o = some (r, h') → ∀ (p : Program) (e : Env) (R : Room) (s : State) (m : MethodId) (args : Array Value) (below : List Frame) (meth : Method) (c : Code) (Q : State → Prop),
    gx_F E own cc nL d ini p R s m args meth c → gx_R E cc rt p e R s m args below meth c Q (em r) h' →
    ∀ (H : Heap) (locs : List Loc) (cells slots : Nat) (ls : Array Slot), gx_P E h H → va_S (gx_A E) s.heap H locs → cells + bc ≤ R.cells → slots + bs ≤ R.slots → gx_L E ls nL L →
      W p (gx_l E) e R s m args below meth c H locs cells slots Q (F0 m pc ls (st.map (gx_v E)))
theorem gx_F.fm {E : gx_Env} {own : String} {cc : ByteArray} {nL : Nat} {d : Nat} {ini : Bool} {p : Program} {R : Room} {s : State} {m : MethodId} {args : Array Value} {meth : Method} {c : Code} (F : gx_F E own cc nL d ini p R s m args meth c) : gx_fm E := F.2.2.2.2.2.1.2.2.2.2.2.2.2.2.1
section GXR
variable {E : gx_Env} {own : String} {cc : ByteArray} {nL : Nat} {rt : Option FieldType} {ini : Bool} {d bc bs pc : Nat} {L : List (Option Value)} {st : List Value} {h : gx_H} {ρ : Type} {em : ρ → Option Value} {o : Option (ρ × gx_H)}
/-- a step that touches neither locals nor cells -/
theorem gx_pure {pc' : Nat} {st' : List Value} (hs : ∀ {p : Program} {e : Env} {R : Room} {s : State} {m : MethodId} {args : Array Value} {below : List Frame} {meth : Method} {c : Code} {Q : State → Prop} {H : Heap} {locs : List Loc} {cells slots : Nat} {ls : Array Slot}, gx_F E own cc nL d ini p R s m args meth c → gx_L E ls nL L →
      W p (gx_l E) e R s m args below meth c H locs cells slots Q (F0 m pc' ls (st'.map (gx_v E))) → W p (gx_l E) e R s m args below meth c H locs cells slots Q (F0 m pc ls (st.map (gx_v E))))
    (k : gx_G E own cc nL rt ini d bc bs pc' L st' h em o) : gx_G E own cc nL rt ini d bc bs pc L st h em o := by
  intro r h' ho p e R s m args below meth c Q F hR H locs cells slots ls hP hS hc hs' hL
  exact hs F hL (k r h' ho p e R s m args below meth c Q F hR H locs cells slots ls hP hS hc hs' hL)
theorem gx_iconst {n : Int} (v : Int32) (hd : decode cc pc = .ok (.iconst n, 1)) (hv : Int32.ofInt n = v) (k : gx_G E own cc nL rt ini d bc bs (pc + 1) L (.int v :: st) h em o) : gx_G E own cc nL rt ini d bc bs pc L st h em o := gx_pure (fun F _ k => lv_iconst F.1 F.2.1 hd hv k) k
theorem gx_bipush {n : Int} (v : Int32) (hd : decode cc pc = .ok (.bipush n, 2)) (hv : (Int8.ofInt n).toInt32 = v) (k : gx_G E own cc nL rt ini d bc bs (pc + 2) L (.int v :: st) h em o) : gx_G E own cc nL rt ini d bc bs pc L st h em o := gx_pure (fun F _ k => lv_bipush F.1 F.2.1 hd hv k) k
theorem gx_sipush {n : Int} (v : Int32) (hd : decode cc pc = .ok (.sipush n, 3)) (hv : (Int16.ofInt n).toInt32 = v) (k : gx_G E own cc nL rt ini d bc bs (pc + 3) L (.int v :: st) h em o) : gx_G E own cc nL rt ini d bc bs pc L st h em o := gx_pure (fun F _ k => lv_sipush F.1 F.2.1 hd hv k) k
theorem gx_lconst {n : Fin 2} (v : Int64) (hd : decode cc pc = .ok (.lconst n, 1)) (hv : Int64.ofNat (n : Nat) = v) (k : gx_G E own cc nL rt ini d bc bs (pc + 1) L (.long v :: st) h em o) : gx_G E own cc nL rt ini d bc bs pc L st h em o := gx_pure (fun F _ k => lv_lconst F.1 F.2.1 hd hv k) k
theorem gx_ldc {index : Nat} {v : Int32} (hw : Cond.constant own index v ∈ gx_tbl) (hd : decode cc pc = .ok (.ldc index, 2)) (k : gx_G E own cc nL rt ini d bc bs (pc + 2) L (.int v :: st) h em o) : gx_G E own cc nL rt ini d bc bs pc L st h em o := gx_pure (fun F _ k => lv_ldc F.1 F.2.1 F.2.2.2.1 (F.2.2.2.2.1 _ hw) hd k) k
theorem gx_ldcw {index : Nat} {v : Int32} (hw : Cond.constant own index v ∈ gx_tbl) (hd : decode cc pc = .ok (.ldc_w index, 3)) (k : gx_G E own cc nL rt ini d bc bs (pc + 3) L (.int v :: st) h em o) : gx_G E own cc nL rt ini d bc bs pc L st h em o := gx_pure (fun F _ k => lv_ldcw F.1 F.2.1 F.2.2.2.1 (F.2.2.2.2.1 _ hw) hd k) k
theorem gx_ldc2 {index : Nat} {v : Int64} (hw : Cond.constantLong own index v ∈ gx_tbl) (hd : decode cc pc = .ok (.ldc2_w index, 3)) (k : gx_G E own cc nL rt ini d bc bs (pc + 3) L (.long v :: st) h em o) : gx_G E own cc nL rt ini d bc bs pc L st h em o := gx_pure (fun F _ k => lv_ldc2 F.1 F.2.1 F.2.2.2.1 (F.2.2.2.2.1 _ hw) hd k) k
theorem gx_iload_n {n : Fin 4} (i : Nat) {x : Int32} (hd : decode cc pc = .ok (.iload_n n, 1)) (hi : (n : Nat) = i) (hl : L[i]? = some (some (.int x))) (k : gx_G E own cc nL rt ini d bc bs (pc + 1) L (.int x :: st) h em o) : gx_G E own cc nL rt ini d bc bs pc L st h em o := gx_pure (fun F hL k => lv_iload_n F.1 F.2.1 hd hi (hL.at hl) k) k
theorem gx_iload {i : Nat} {x : Int32} (hd : decode cc pc = .ok (.iload i, 2)) (hl : L[i]? = some (some (.int x))) (k : gx_G E own cc nL rt ini d bc bs (pc + 2) L (.int x :: st) h em o) : gx_G E own cc nL rt ini d bc bs pc L st h em o := gx_pure (fun F hL k => lv_iload F.1 F.2.1 hd (hL.at hl) k) k
theorem gx_lload_n {n : Fin 4} (i : Nat) {x : Int64} (hd : decode cc pc = .ok (.lload_n n, 1)) (hi : (n : Nat) = i) (hl : L[i]? = some (some (.long x))) (k : gx_G E own cc nL rt ini d bc bs (pc + 1) L (.long x :: st) h em o) : gx_G E own cc nL rt ini d bc bs pc L st h em o := gx_pure (fun F hL k => lv_lload_n F.1 F.2.1 hd hi (hL.at hl) k) k
theorem gx_lload {i : Nat} {x : Int64} (hd : decode cc pc = .ok (.lload i, 2)) (hl : L[i]? = some (some (.long x))) (k : gx_G E own cc nL rt ini d bc bs (pc + 2) L (.long x :: st) h em o) : gx_G E own cc nL rt ini d bc bs pc L st h em o := gx_pure (fun F hL k => lv_lload F.1 F.2.1 hd (hL.at hl) k) k
theorem gx_aload_n {n : Fin 4} (i : Nat) {x : Nat} (hd : decode cc pc = .ok (.aload_n n, 1)) (hi : (n : Nat) = i) (hl : L[i]? = some (some (.ref x))) (k : gx_G E own cc nL rt ini d bc bs (pc + 1) L (.ref x :: st) h em o) : gx_G E own cc nL rt ini d bc bs pc L st h em o := gx_pure (fun F hL k => lv_aload_n F.1 F.2.1 hd hi (hL.at hl) k) k
theorem gx_aload {i : Nat} {x : Nat} (hd : decode cc pc = .ok (.aload i, 2)) (hl : L[i]? = some (some (.ref x))) (k : gx_G E own cc nL rt ini d bc bs (pc + 2) L (.ref x :: st) h em o) : gx_G E own cc nL rt ini d bc bs pc L st h em o := gx_pure (fun F hL k => lv_aload F.1 F.2.1 hd (hL.at hl) k) k
/-- a thing from outside (but the formatter) -/
theorem gx_kref {i : Nat} (hi : i ≠ 10) : gx_v E (.retAddr i) = .ref (gx_aK E i) := if_neg hi
theorem gx_kload_n {n : Fin 4} (i : Nat) {x : Nat} (hd : decode cc pc = .ok (.aload_n n, 1)) (hi : (n : Nat) = i) (hl : L[i]? = some (some (.retAddr x))) (k : gx_G E own cc nL rt ini d bc bs (pc + 1) L (.retAddr x :: st) h em o) : gx_G E own cc nL rt ini d bc bs pc L st h em o := by
  refine gx_pure (fun F hL k => ?_) k
  have h1 := hL.at hl
  rw [List.map_cons] at k
  have hc : gx_v E (.retAddr x) = .null ∨ ∃ t, gx_v E (.retAddr x) = .ref t := by
    show gx_k E x = .null ∨ ∃ t, gx_k E x = .ref t
    unfold gx_k
    split
    · exact F.fm
    · exact Or.inr ⟨_, rfl⟩
  rcases hc with hc | ⟨t, hc⟩
  · rw [hc] at h1 k
    exact lv_aload_nN F.1 F.2.1 hd hi h1 k
  · rw [hc] at h1 k
    exact lv_aload_n F.1 F.2.1 hd hi h1 k
theorem gx_iadd {x y : Int32} (hd : decode cc pc = .ok (.iadd, 1)) (k : gx_G E own cc nL rt ini d bc bs (pc + 1) L (.int (x + y) :: st) h em o) : gx_G E own cc nL rt ini d bc bs pc L (.int y :: .int x :: st) h em o := gx_pure (fun F _ k => lv_iadd F.1 F.2.1 hd k) k
theorem gx_isub {x y : Int32} (hd : decode cc pc = .ok (.isub, 1)) (k : gx_G E own cc nL rt ini d bc bs (pc + 1) L (.int (x - y) :: st) h em o) : gx_G E own cc nL rt ini d bc bs pc L (.int y :: .int x :: st) h em o := gx_pure (fun F _ k => lv_isub F.1 F.2.1 hd k) k
theorem gx_imul {x y : Int32} (hd : decode cc pc = .ok (.imul, 1)) (k : gx_G E own cc nL rt ini d bc bs (pc + 1) L (.int (x * y) :: st) h em o) : gx_G E own cc nL rt ini d bc bs pc L (.int y :: .int x :: st) h em o := gx_pure (fun F _ k => lv_imul F.1 F.2.1 hd k) k
theorem gx_iand {x y : Int32} (hd : decode cc pc = .ok (.iand, 1)) (k : gx_G E own cc nL rt ini d bc bs (pc + 1) L (.int (x &&& y) :: st) h em o) : gx_G E own cc nL rt ini d bc bs pc L (.int y :: .int x :: st) h em o := gx_pure (fun F _ k => lv_iand F.1 F.2.1 hd k) k
theorem gx_ior {x y : Int32} (hd : decode cc pc = .ok (.ior, 1)) (k : gx_G E own cc nL rt ini d bc bs (pc + 1) L (.int (x ||| y) :: st) h em o) : gx_G E own cc nL rt ini d bc bs pc L (.int y :: .int x :: st) h em o := gx_pure (fun F _ k => lv_ior F.1 F.2.1 hd k) k
theorem gx_ixor {x y : Int32} (hd : decode cc pc = .ok (.ixor, 1)) (k : gx_G E own cc nL rt ini d bc bs (pc + 1) L (.int (x ^^^ y) :: st) h em o) : gx_G E own cc nL rt ini d bc bs pc L (.int y :: .int x :: st) h em o := gx_pure (fun F _ k => lv_ixor F.1 F.2.1 hd k) k
theorem gx_ishl {x y : Int32} (hd : decode cc pc = .ok (.ishl, 1)) (k : gx_G E own cc nL rt ini d bc bs (pc + 1) L (.int (x <<< (y &&& 31)) :: st) h em o) : gx_G E own cc nL rt ini d bc bs pc L (.int y :: .int x :: st) h em o := gx_pure (fun F _ k => lv_ishl F.1 F.2.1 hd k) k
theorem gx_ishr {x y : Int32} (hd : decode cc pc = .ok (.ishr, 1)) (k : gx_G E own cc nL rt ini d bc bs (pc + 1) L (.int (x >>> (y &&& 31)) :: st) h em o) : gx_G E own cc nL rt ini d bc bs pc L (.int y :: .int x :: st) h em o := gx_pure (fun F _ k => lv_ishr F.1 F.2.1 hd k) k
theorem gx_ladd {x y : Int64} (hd : decode cc pc = .ok (.ladd, 1)) (k : gx_G E own cc nL rt ini d bc bs (pc + 1) L (.long (x + y) :: st) h em o) : gx_G E own cc nL rt ini d bc bs pc L (.long y :: .long x :: st) h em o := gx_pure (fun F _ k => lv_ladd F.1 F.2.1 hd k) k
theorem gx_lsub {x y : Int64} (hd : decode cc pc = .ok (.lsub, 1)) (k : gx_G E own cc nL rt ini d bc bs (pc + 1) L (.long (x - y) :: st) h em o) : gx_G E own cc nL rt ini d bc bs pc L (.long y :: .long x :: st) h em o := gx_pure (fun F _ k => lv_lsub F.1 F.2.1 hd k) k
theorem gx_lmul {x y : Int64} (hd : decode cc pc = .ok (.lmul, 1)) (k : gx_G E own cc nL rt ini d bc bs (pc + 1) L (.long (x * y) :: st) h em o) : gx_G E own cc nL rt ini d bc bs pc L (.long y :: .long x :: st) h em o := gx_pure (fun F _ k => lv_lmul F.1 F.2.1 hd k) k
theorem gx_lcmp {x y : Int64} (hd : decode cc pc = .ok (.lcmp, 1)) (k : gx_G E own cc nL rt ini d bc bs (pc + 1) L (.int (lg_cmp x y) :: st) h em o) : gx_G E own cc nL rt ini d bc bs pc L (.long y :: .long x :: st) h em o := gx_pure (fun F _ k => W.lcmp F.1 F.2.1 hd k) k
theorem gx_i2l {x : Int32} (hd : decode cc pc = .ok (.i2l, 1)) (k : gx_G E own cc nL rt ini d bc bs (pc + 1) L (.long x.toInt64 :: st) h em o) : gx_G E own cc nL rt ini d bc bs pc L (.int x :: st) h em o := gx_pure (fun F _ k => lv_i2l F.1 F.2.1 hd rfl k) k
theorem gx_l2i {x : Int64} (hd : decode cc pc = .ok (.l2i, 1)) (k : gx_G E own cc nL rt ini d bc bs (pc + 1) L (.int x.toInt32 :: st) h em o) : gx_G E own cc nL rt ini d bc bs pc L (.long x :: st) h em o := gx_pure (fun F _ k => lv_l2i F.1 F.2.1 hd rfl k) k
theorem gx_i2b {x : Int32} (hd : decode cc pc = .ok (.i2b, 1)) (k : gx_G E own cc nL rt ini d bc bs (pc + 1) L (.int x.toInt8.toInt32 :: st) h em o) : gx_G E own cc nL rt ini d bc bs pc L (.int x :: st) h em o := gx_pure (fun F _ k => lv_i2b F.1 F.2.1 hd rfl k) k
theorem gx_i2c {x : Int32} (hd : decode cc pc = .ok (.i2c, 1)) (k : gx_G E own cc nL rt ini d bc bs (pc + 1) L (.int (x.toUInt32 % 65536).toInt32 :: st) h em o) : gx_G E own cc nL rt ini d bc bs pc L (.int x :: st) h em o := gx_pure (fun F _ k => lv_i2c F.1 F.2.1 hd rfl k) k
/-- division: where the divisor is 0 nothing is said -/
def gx_dI (x y : Int32) : Option Int32 := if y = 0 then none else some (x / y)
def gx_rI (x y : Int32) : Option Int32 := if y = 0 then none else some (x - x / y * y)
def gx_dJ (x y : Int64) : Option Int64 := if y = 0 then none else some (x / y)
def gx_rJ (x y : Int64) : Option Int64 := if y = 0 then none else some (x - x / y * y)
theorem gx_bind {α : Type} {a : Option α} {f : α → Option (ρ × gx_H)} (k : ∀ x, a = some x → gx_G E own cc nL rt ini d bc bs pc L st h em (f x)) : gx_G E own cc nL rt ini d bc bs pc L st h em (a.bind f) := by
  intro r h' ho
  obtain ⟨x, hx, hf⟩ := Option.bind_eq_some_iff.mp ho
  exact k x hx r h' hf
theorem gx_idiv {x y : Int32} {f : Int32 → Option (ρ × gx_H)} (hd : decode cc pc = .ok (.idiv, 1)) (k : ∀ z, gx_G E own cc nL rt ini d bc bs (pc + 1) L (.int z :: st) h em (f z)) : gx_G E own cc nL rt ini d bc bs pc L (.int y :: .int x :: st) h em ((gx_dI x y).bind f) := by
  refine gx_bind fun z hz => ?_
  unfold gx_dI at hz
  split at hz
  · cases hz
  · rename_i hne
    cases hz
    exact gx_pure (fun F _ k => lv_idiv F.1 F.2.1 hd hne k) (k _)
theorem gx_irem {x y : Int32} {f : Int32 → Option (ρ × gx_H)} (hd : decode cc pc = .ok (.irem, 1)) (k : ∀ z, gx_G E own cc nL rt ini d bc bs (pc + 1) L (.int z :: st) h em (f z)) : gx_G E own cc nL rt ini d bc bs pc L (.int y :: .int x :: st) h em ((gx_rI x y).bind f) := by
  refine gx_bind fun z hz => ?_
  unfold gx_rI at hz
  split at hz
  · cases hz
  · rename_i hne
    cases hz
    exact gx_pure (fun F _ k => lv_irem F.1 F.2.1 hd hne k) (k _)
theorem gx_ldiv {x y : Int64} {f : Int64 → Option (ρ × gx_H)} (hd : decode cc pc = .ok (.ldiv, 1)) (k : ∀ z, gx_G E own cc nL rt ini d bc bs (pc + 1) L (.long z :: st) h em (f z)) : gx_G E own cc nL rt ini d bc bs pc L (.long y :: .long x :: st) h em ((gx_dJ x y).bind f) := by
  refine gx_bind fun z hz => ?_
  unfold gx_dJ at hz
  split at hz
  · cases hz
  · rename_i hne
    cases hz
    exact gx_pure (fun F _ k => lv_ldiv F.1 F.2.1 hd hne k) (k _)
theorem gx_lrem {x y : Int64} {f : Int64 → Option (ρ × gx_H)} (hd : decode cc pc = .ok (.lrem, 1)) (k : ∀ z, gx_G E own cc nL rt ini d bc bs (pc + 1) L (.long z :: st) h em (f z)) : gx_G E own cc nL rt ini d bc bs pc L (.long y :: .long x :: st) h em ((gx_rJ x y).bind f) := by
  refine gx_bind fun z hz => ?_
  unfold gx_rJ at hz
  split at hz
  · cases hz
  · rename_i hne
    cases hz
    exact gx_pure (fun F _ k => lv_lrem F.1 F.2.1 hd hne k) (k _)
theorem gx_c1 (hE : gx_fm E) {v : Value} (hv : v.category = 1) : (gx_v E v).category = 1 := by
  rcases lv_cat (gx_v E v) with q | q
  · exact q
  · rcases gx_catv hE q with ⟨x, rfl⟩ | ⟨x, rfl⟩ <;> simp [Value.category] at hv
theorem gx_dup {v : Value} (hd : decode cc pc = .ok (.dup, 1)) (hv : v.category = 1) (k : gx_G E own cc nL rt ini d bc bs (pc + 1) L (v :: v :: st) h em o) : gx_G E own cc nL rt ini d bc bs pc L (v :: st) h em o := gx_pure (fun F _ k => lv_dup F.1 F.2.1 hd (gx_c1 F.fm hv) k) k
theorem gx_pop {v : Value} (hd : decode cc pc = .ok (.pop, 1)) (hv : v.category = 1) (k : gx_G E own cc nL rt ini d bc bs (pc + 1) L st h em o) : gx_G E own cc nL rt ini d bc bs pc L (v :: st) h em o := gx_pure (fun F _ k => lv_pop F.1 F.2.1 hd (gx_c1 F.fm hv) k) k
theorem gx_dup_x1 {v w : Value} (hd : decode cc pc = .ok (.dup_x1, 1)) (hv : v.category = 1) (hw : w.category = 1) (k : gx_G E own cc nL rt ini d bc bs (pc + 1) L (v :: w :: v :: st) h em o) : gx_G E own cc nL rt ini d bc bs pc L (v :: w :: st) h em o := gx_pure (fun F _ k => lv_dup_x1 F.1 F.2.1 hd (gx_c1 F.fm hv) (gx_c1 F.fm hw) k) k
theorem gx_dup2 {v w : Value} (hd : decode cc pc = .ok (.dup2, 1)) (hv : v.category = 1) (hw : w.category = 1) (k : gx_G E own cc nL rt ini d bc bs (pc + 1) L (v :: w :: v :: w :: st) h em o) : gx_G E own cc nL rt ini d bc bs pc L (v :: w :: st) h em o := gx_pure (fun F _ k => lv_dup2_11 F.1 F.2.1 hd (gx_c1 F.fm hv) (gx_c1 F.fm hw) k) k
theorem gx_goto {off : Int} (tgt : Nat) (hd : decode cc pc = .ok (.goto off, 3)) (ht : (pc : Int) + off = (tgt : Int)) (k : gx_G E own cc nL rt ini d bc bs tgt L st h em o) : gx_G E own cc nL rt ini d bc bs pc L st h em o := gx_pure (fun F _ k => lv_goto F.1 F.2.1 hd ht k) k
theorem gx_ite {c : Prop} [Decidable c] {o1 o2 : Option (ρ × gx_H)} (k1 : c → gx_G E own cc nL rt ini d bc bs pc L st h em o1) (k2 : ¬ c → gx_G E own cc nL rt ini d bc bs pc L st h em o2) : gx_G E own cc nL rt ini d bc bs pc L st h em (if c then o1 else o2) := by
  by_cases hc : c
  · rw [if_pos hc]; exact k1 hc
  · rw [if_neg hc]; exact k2 hc
end GXR
