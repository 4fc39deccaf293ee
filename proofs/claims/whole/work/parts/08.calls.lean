/-! calls -/
def gx_N : Nat := 20000
def gx_let {α β : Type} (a : α) (f : α → β) : β := f a
def gx_bd {α β : Type} (a : Option (α × gx_H)) (f : α → gx_H → Option β) : Option β := a.bind (fun q => f q.1 q.2)
def gx_M (E : gx_Env) (y : MethodName) (cy : ByteArray) (ny : Nat) (rt : Option FieldType) (d mc ms : Nat) (As : List Value) (h : gx_H) (v : Option Value) (h' : gx_H) : Prop :=
  Met (gx_l E) y (Cond.code y cy ny rt :: gx_tbl) ({ frames := d, cells := mc, slots := ms, locals := 64 * d } : Room) (va_Pc (As.map (gx_v E)) (fun U => gx_P E h U.heap ∧ gx_ok E U U.heap ∧ gx_b E ≤ U.heap.size)) (fun _ s0 oc t => oc = .returned (v.map (gx_v E)) ∧ gx_P E h' t.heap ∧ va_F (gx_A E) s0 t) mc ms (gx_A E)
def gx_Mt (y : MethodName) (cy : ByteArray) (ny : Nat) (rt : Option FieldType) (n : Nat) : Prop := Cond.code y cy ny rt ∈ gx_tbl ∧ Cond.initialized y.cls ∈ gx_tbl ∧ (y.cls ≠ "java/lang/invoke/MethodHandle" ∧ y.cls ≠ "java/lang/invoke/VarHandle" ∧ (parseMethodDescriptor y.desc).map (fun d => d.parameters.length) = some n) ∧ ny ≤ 45
def gx_MS (own : String) (idx : Nat) (y : MethodName) (cy : ByteArray) (ny : Nat) (rt : Option FieldType) (n : Nat) : Prop := gx_Mt y cy ny rt n ∧ Cond.methodLink own idx y ∈ gx_tbl ∧ Cond.static y ∈ gx_tbl
def gx_MV (own : String) (idx : Nat) (y : MethodName) (cy : ByteArray) (ny : Nat) (rt : Option FieldType) (n : Nat) : Prop := gx_Mt y cy ny rt n ∧ Cond.methodLink own idx y ∈ gx_tbl ∧ Cond.instanceMethod y ∈ gx_tbl ∧ Cond.selects y.cls y y ∈ gx_tbl
def gx_MSN (own : String) (idx : Nat) (y : MethodName) (cy : ByteArray) (ny : Nat) (rt : Option FieldType) (n : Nat) : Prop := gx_Mt y cy ny rt n ∧ (own, idx, y) ∈ gx_nest ∧ Cond.static y ∈ gx_tbl
def gx_MI (own : String) (idx : Nat) (y : MethodName) (cy : ByteArray) (ny : Nat) (n : Nat) : Prop := gx_Mt y cy ny none n ∧ Cond.methodLink own idx y ∈ gx_tbl ∧ Cond.instanceMethod y ∈ gx_tbl ∧ y.name = "<init>"
def gx_MIN (own : String) (idx : Nat) (y : MethodName) (cy : ByteArray) (ny : Nat) (n : Nat) : Prop := gx_Mt y cy ny none n ∧ (own, idx, y) ∈ gx_nest ∧ Cond.instanceMethod y ∈ gx_tbl ∧ y.name = "<init>"
theorem gx_blind {E : gx_Env} {h : gx_H} {As : List Value} : FrameBlind (va_Pc As (fun U => gx_P E h U.heap ∧ gx_ok E U U.heap ∧ gx_b E ≤ U.heap.size)) := fun a U g mk q => ⟨q.1, q.2.1, gx_ok.same (s := U) rfl q.2.2.1, q.2.2.2⟩
section GXC
variable {E : gx_Env} {own : String} {cc : ByteArray} {nL : Nat} {rt : Option FieldType} {ini : Bool} {d bc bs pc : Nat} {L : List (Option Value)} {st : List Value} {h : gx_H} {ρ : Type} {em : ρ → Option Value} {o o1 o2 : Option (ρ × gx_H)}
/-- behind a call -/
theorem gx_cont {ρ' : Type} {y : MethodName} {As : List Value} {mc ms : Nat} {v : Option Value} {h1 : gx_H} {p : Program} {e : Env} {R : Room} {s : State} {m : MethodId} {args : Array Value} {below : List Frame} {meth : Method} {c : Code} {Q : State → Prop} {H : Heap} {locs : List Loc} {cells slots : Nat} {ls : Array Slot} {st0 : List Value}
    (hr : va_Run p (gx_l E) e R s m args below meth c H locs cells slots mc ms (F0 m pc ls st0) (st.map (gx_v E)) (fun (s0 : State) (oc : Outcome) (t : State) => oc = .returned (v.map (gx_v E)) ∧ gx_P E h1 t.heap ∧ va_F (gx_A E) s0 t) (gx_A E)) (hS : va_S (gx_A E) s.heap H locs)
    (kk : ∀ (H1 : Heap) (locs1 : List Loc), gx_P E h1 H1 → va_S (gx_A E) s.heap H1 locs1 → W p (gx_l E) e R s m args below meth c H1 locs1 (cells + mc) (slots + ms) Q (F0 m (pc + 3) ls ((v.toList ++ st).map (gx_v E)))) : W p (gx_l E) e R s m args below meth c H locs cells slots Q (F0 m pc ls st0) := by
  intro T hT X
  obtain ⟨v', st₀, t, T', L', h0, X', hL', e1, e2, ⟨hv, hP', hz, hk⟩, stp⟩ := hr T hT X
  rw [h0] at hz hk
  have hv' : v' = v.map (gx_v E) := by cases hv; rfl
  subst hv'
  obtain ⟨t2, a1, b1⟩ := kk T'.heap (locs ++ L') (by rw [e1]; exact hP')
    ⟨Nat.le_trans hS.1 (by rw [e1]; exact hz), fun q h1 h2 => by rw [e1, hk q (Nat.lt_of_lt_of_le h1 hS.1) h2]; exact hS.2.1 q h1 h2, fun q hq => by
      rcases List.mem_append.mp hq with h | h
      · exact hS.2.2 q h
      · exact hL' q h⟩ T' rfl X'
  refine ⟨t2, stp t2 ?_, b1⟩
  have e : (v.toList ++ st).map (gx_v E) = (v.map (gx_v E)).toList ++ st.map (gx_v E) := by cases v <;> simp
  rw [e] at a1
  exact a1
theorem gx_upre {s : State} {H : Heap} {locs : List Loc} (hok : gx_ok E s s.heap) (hb : gx_b E ≤ s.heap.size) (hP : gx_P E h H) (hS : va_S (gx_A E) s.heap H locs) : ∀ U : State, U.heap = H → s.WarmedH U.vm → gx_P E h U.heap ∧ gx_ok E U U.heap ∧ gx_b E ≤ U.heap.size := by
  intro U hU hW
  rw [hU]
  exact ⟨hP, (hok.kept hb hS.2.1).warm hW, Nat.le_trans hb hS.1⟩
theorem gx_rm (hE : gx_fm E) (hst : (st.map fun v => v.category).sum ≤ 8) : ((st.map (gx_v E)).map fun v => v.category).sum ≤ 8 := by
  have e : (st.map (gx_v E)).map (fun v => v.category) = st.map (fun v => v.category) := by
    rw [List.map_map]
    refine List.map_congr_left fun v _ => ?_
    show (gx_v E v).category = v.category
    rcases lv_cat v with q | q
    · rw [q]; exact gx_c1 hE q
    · cases v <;> first | rfl | (simp [Value.category] at q)
  rw [e]
  exact hst
theorem gx_callS {idx n mc ms : Nat} {y : MethodName} {cy : ByteArray} {ny : Nat} {ρ' : Type} {em' : ρ' → Option Value} {f : Option (ρ' × gx_H)} {g : ρ' → gx_H → Option (ρ × gx_H)} {ry : Option FieldType} (As : List Value) (hw : gx_MS own idx y cy ny ry n) (hd : decode cc pc = .ok (.invokestatic idx, 3)) {st0 : List Value} (hst0 : st0 = As.reverse ++ st) (hn : As.length = n) (hst : (st.map fun v => v.category).sum ≤ 8)
    (hM : ∀ r h1, f = some (r, h1) → gx_M E y cy ny ry d mc ms As h (em' r) h1) (kk : ∀ (r : ρ') (h1 : gx_H), gx_G E own cc nL rt ini (d + 1) bc bs (pc + 3) L ((em' r).toList ++ st) h1 em (g r h1)) : gx_G E own cc nL rt ini (d + 1) (bc + mc) (bs + ms) pc L st0 h em (gx_bd f g) := by
  subst hst0
  unfold gx_bd
  refine gx_bind fun rh hf => ?_
  obtain ⟨r1, h1⟩ := rh
  intro r h' ho p e R s m args below meth c Q F hR H locs cells slots ls hP hS hc hs hL
  have hts := F.2.2.2.2.1
  have hok := F.2.2.2.2.2.1
  have hfr := F.2.2.2.2.2.2.1
  obtain ⟨⟨w1, w2, w3, w4⟩, w5, w6⟩ := hw
  refine gx_cont (ρ' := ρ') (y := y) (As := As) (v := em' r1) (h1 := h1) (va_runS (As := As.map (gx_v E)) (rest := st.map (gx_v E)) ⟨F.1, F.2.1, F.2.2.1, F.2.2.2.1, hts⟩ (hM r1 h1 hf) ⟨callB_of n hts (gx_good w1) rfl rfl rfl (hts _ w2) (hts _ w5) w3 ⟨hfr.1, by show 8 + (ny + 11) + 64 * d ≤ R.locals; omega⟩, hts _ w6⟩ ⟨gx_blind, fun U hU hW => ⟨rfl, gx_upre hok F.2.2.2.2.2.2.2.2 hP hS U hU hW⟩⟩ rfl (by rw [List.length_map]; exact hn) hL.2.1 (by show (As.reverse ++ st).map (gx_v E) = _; rw [List.map_append, List.map_reverse]) (lv_room (gx_rm F.fm hst)) hd ⟨by omega, by omega⟩) hS (fun H1 locs1 hP1 hS1 => ?_)
  exact kk r1 h1 r h' ho p e R s m args below meth c Q F hR H1 locs1 (cells + mc) (slots + ms) ls hP1 hS1 (by omega) (by omega) hL
theorem gx_callSN {idx n mc ms : Nat} {y : MethodName} {cy : ByteArray} {ny : Nat} {ρ' : Type} {em' : ρ' → Option Value} {f : Option (ρ' × gx_H)} {g : ρ' → gx_H → Option (ρ × gx_H)} {ry : Option FieldType} (As : List Value) (hw : gx_MSN own idx y cy ny ry n) (hd : decode cc pc = .ok (.invokestatic idx, 3)) {st0 : List Value} (hst0 : st0 = As.reverse ++ st) (hn : As.length = n) (hst : (st.map fun v => v.category).sum ≤ 8)
    (hM : ∀ r h1, f = some (r, h1) → gx_M E y cy ny ry d mc ms As h (em' r) h1) (kk : ∀ (r : ρ') (h1 : gx_H), gx_G E own cc nL rt ini (d + 1) bc bs (pc + 3) L ((em' r).toList ++ st) h1 em (g r h1)) : gx_G E own cc nL rt ini (d + 1) (bc + mc) (bs + ms) pc L st0 h em (gx_bd f g) := by
  subst hst0
  unfold gx_bd
  refine gx_bind fun rh hf => ?_
  obtain ⟨r1, h1⟩ := rh
  intro r h' ho p e R s m args below meth c Q F hR H locs cells slots ls hP hS hc hs hL
  have hts := F.2.2.2.2.1
  have hok := F.2.2.2.2.2.1
  have hfr := F.2.2.2.2.2.2.1
  obtain ⟨⟨w1, w2, w3, w4⟩, w5, w6⟩ := hw
  refine gx_cont (ρ' := ρ') (y := y) (As := As) (v := em' r1) (h1 := h1) (va_runSN (As := As.map (gx_v E)) (rest := st.map (gx_v E)) ⟨F.1, F.2.1, F.2.2.1, F.2.2.2.1, hts⟩ (hM r1 h1 hf) ⟨va_cnB n hts (gx_good w1) rfl rfl rfl (hok.2.1 _ w5) (hts _ w2) w3 ⟨hfr.1, by show 8 + (ny + 11) + 64 * d ≤ R.locals; omega⟩, hts _ w6, trivial⟩ ⟨gx_blind, fun U hU hW => ⟨rfl, gx_upre hok F.2.2.2.2.2.2.2.2 hP hS U hU hW⟩⟩ rfl (by rw [List.length_map]; exact hn) hL.2.1 (by show (As.reverse ++ st).map (gx_v E) = _; rw [List.map_append, List.map_reverse]) (lv_room (gx_rm F.fm hst)) hd ⟨by omega, by omega⟩) hS (fun H1 locs1 hP1 hS1 => ?_)
  exact kk r1 h1 r h' ho p e R s m args below meth c Q F hR H1 locs1 (cells + mc) (slots + ms) ls hP1 hS1 (by omega) (by omega) hL
theorem gx_callV {idx n mc ms : Nat} {y : MethodName} {cy : ByteArray} {ny : Nat} {ρ' : Type} {em' : ρ' → Option Value} {f : Option (ρ' × gx_H)} {g : ρ' → gx_H → Option (ρ × gx_H)} {ry : Option FieldType} {a ci : Nat} (As : List Value) (hw : gx_MV own idx y cy ny ry n) (hcl : (vwCl[ci]?).map (fun q => q.1) = some y.cls) (hd : decode cc pc = .ok (.invokevirtual idx, 3)) {st0 : List Value} (hst0 : st0 = As.reverse ++ .ref a :: st) (hn : As.length = n) (hst : (st.map fun v => v.category).sum ≤ 8)
    (hrec : ∀ x, f = some x → ∃ fs, h.2 a = .inr (ci, fs)) (hM : ∀ r h1, f = some (r, h1) → gx_M E y cy ny ry d mc ms (.ref a :: As) h (em' r) h1) (kk : ∀ (r : ρ') (h1 : gx_H), gx_G E own cc nL rt ini (d + 1) bc bs (pc + 3) L ((em' r).toList ++ st) h1 em (g r h1)) : gx_G E own cc nL rt ini (d + 1) (bc + mc) (bs + ms) pc L st0 h em (gx_bd f g) := by
  subst hst0
  unfold gx_bd
  refine gx_bind fun rh hf => ?_
  obtain ⟨fs, hfs⟩ := hrec _ hf
  obtain ⟨r1, h1⟩ := rh
  intro r h' ho p e R s m args below meth c Q F hR H locs cells slots ls hP hS hc hs hL
  have hts := F.2.2.2.2.1
  have hok := F.2.2.2.2.2.1
  have hfr := F.2.2.2.2.2.2.1
  obtain ⟨⟨w1, w2, w3, w4⟩, w5, w6, w7⟩ := hw
  obtain ⟨q, hq, hqc⟩ := Option.map_eq_some_iff.mp hcl
  have hci : ci < 10 := (List.getElem?_eq_some_iff.mp hq).1
  have hlt : a < h.1 := hP.lt (fun z => by rw [hfs] at z; cases z; omega)
  have hrv := va_recv hok.1 (hP.one hlt hfs) hq (q0 := 0) rfl
  rw [hqc] at hrv
  refine gx_cont (ρ' := ρ') (y := y) (As := As) (v := em' r1) (h1 := h1) (va_runV (As := As.map (gx_v E)) (rest := st.map (gx_v E)) ⟨F.1, F.2.1, F.2.2.1, F.2.2.2.1, hts⟩ (hM r1 h1 hf) ⟨callB_of n hts (gx_good w1) rfl rfl rfl (hts _ w2) (hts _ w5) w3 ⟨hfr.1, by show 8 + (ny + 11) + 64 * d ≤ R.locals; omega⟩, hts _ w6, hts _ w7⟩ ⟨gx_blind, hrv, fun U hU hW => ⟨rfl, gx_upre hok F.2.2.2.2.2.2.2.2 hP hS U hU hW⟩⟩ rfl (by rw [List.length_map]; exact hn) hL.2.1 (by show (As.reverse ++ .ref a :: st).map (gx_v E) = _; rw [List.map_append, List.map_reverse]; rfl) (lv_room (gx_rm F.fm hst)) hd ⟨by omega, by omega⟩) hS (fun H1 locs1 hP1 hS1 => ?_)
  exact kk r1 h1 r h' ho p e R s m args below meth c Q F hR H1 locs1 (cells + mc) (slots + ms) ls hP1 hS1 (by omega) (by omega) hL
theorem gx_callI {idx n mc ms : Nat} {y : MethodName} {cy : ByteArray} {ny : Nat} {ρ' : Type} {em' : ρ' → Option Value} {f : Option (ρ' × gx_H)} {g : ρ' → gx_H → Option (ρ × gx_H)} {a : Nat} (As : List Value) (hw : gx_MI own idx y cy ny n) (hd : decode cc pc = .ok (.invokespecial idx, 3)) {st0 : List Value} (hst0 : st0 = As.reverse ++ .ref a :: st) (hn : As.length = n) (hst : (st.map fun v => v.category).sum ≤ 8)
    (hM : ∀ r h1, f = some (r, h1) → gx_M E y cy ny none d mc ms (.ref a :: As) h (em' r) h1) (kk : ∀ (r : ρ') (h1 : gx_H), gx_G E own cc nL rt ini (d + 1) bc bs (pc + 3) L ((em' r).toList ++ st) h1 em (g r h1)) : gx_G E own cc nL rt ini (d + 1) (bc + mc) (bs + ms) pc L st0 h em (gx_bd f g) := by
  subst hst0
  unfold gx_bd
  refine gx_bind fun rh hf => ?_
  obtain ⟨r1, h1⟩ := rh
  intro r h' ho p e R s m args below meth c Q F hR H locs cells slots ls hP hS hc hs hL
  have hts := F.2.2.2.2.1
  have hok := F.2.2.2.2.2.1
  have hfr := F.2.2.2.2.2.2.1
  obtain ⟨⟨w1, w2, w3, w4⟩, w5, w6, w7⟩ := hw
  refine gx_cont (ρ' := ρ') (y := y) (As := As) (v := em' r1) (h1 := h1) (va_runI (As := As.map (gx_v E)) (rest := st.map (gx_v E)) ⟨F.1, F.2.1, F.2.2.1, F.2.2.2.1, hts⟩ (hM r1 h1 hf) ⟨callB_of n hts (gx_good w1) rfl rfl rfl (hts _ w2) (hts _ w5) w3 ⟨hfr.1, by show 8 + (ny + 11) + 64 * d ≤ R.locals; omega⟩, w7, hts _ w6⟩ ⟨gx_blind, fun U hU hW => ⟨rfl, gx_upre hok F.2.2.2.2.2.2.2.2 hP hS U hU hW⟩⟩ rfl (by rw [List.length_map]; exact hn) hL.2.1 (by show (As.reverse ++ .ref a :: st).map (gx_v E) = _; rw [List.map_append, List.map_reverse]; rfl) (lv_room (gx_rm F.fm hst)) hd ⟨by omega, by omega⟩) hS (fun H1 locs1 hP1 hS1 => ?_)
  exact kk r1 h1 r h' ho p e R s m args below meth c Q F hR H1 locs1 (cells + mc) (slots + ms) ls hP1 hS1 (by omega) (by omega) hL
theorem gx_callIN {idx n mc ms : Nat} {y : MethodName} {cy : ByteArray} {ny : Nat} {ρ' : Type} {em' : ρ' → Option Value} {f : Option (ρ' × gx_H)} {g : ρ' → gx_H → Option (ρ × gx_H)} {a : Nat} (As : List Value) (hw : gx_MIN own idx y cy ny n) (hd : decode cc pc = .ok (.invokespecial idx, 3)) {st0 : List Value} (hst0 : st0 = As.reverse ++ .ref a :: st) (hn : As.length = n) (hst : (st.map fun v => v.category).sum ≤ 8)
    (hM : ∀ r h1, f = some (r, h1) → gx_M E y cy ny none d mc ms (.ref a :: As) h (em' r) h1) (kk : ∀ (r : ρ') (h1 : gx_H), gx_G E own cc nL rt ini (d + 1) bc bs (pc + 3) L ((em' r).toList ++ st) h1 em (g r h1)) : gx_G E own cc nL rt ini (d + 1) (bc + mc) (bs + ms) pc L st0 h em (gx_bd f g) := by
  subst hst0
  unfold gx_bd
  refine gx_bind fun rh hf => ?_
  obtain ⟨r1, h1⟩ := rh
  intro r h' ho p e R s m args below meth c Q F hR H locs cells slots ls hP hS hc hs hL
  have hts := F.2.2.2.2.1
  have hok := F.2.2.2.2.2.1
  have hfr := F.2.2.2.2.2.2.1
  obtain ⟨⟨w1, w2, w3, w4⟩, w5, w6, w7⟩ := hw
  refine gx_cont (ρ' := ρ') (y := y) (As := As) (v := em' r1) (h1 := h1) (va_runIN (As := As.map (gx_v E)) (rest := st.map (gx_v E)) ⟨F.1, F.2.1, F.2.2.1, F.2.2.2.1, hts⟩ (hM r1 h1 hf) ⟨va_cnB n hts (gx_good w1) rfl rfl rfl (hok.2.1 _ w5) (hts _ w2) w3 ⟨hfr.1, by show 8 + (ny + 11) + 64 * d ≤ R.locals; omega⟩, w7, hts _ w6⟩ ⟨gx_blind, fun U hU hW => ⟨rfl, gx_upre hok F.2.2.2.2.2.2.2.2 hP hS U hU hW⟩⟩ rfl (by rw [List.length_map]; exact hn) hL.2.1 (by show (As.reverse ++ .ref a :: st).map (gx_v E) = _; rw [List.map_append, List.map_reverse]; rfl) (lv_room (gx_rm F.fm hst)) hd ⟨by omega, by omega⟩) hS (fun H1 locs1 hP1 hS1 => ?_)
  exact kk r1 h1 r h' ho p e R s m args below meth c Q F hR H1 locs1 (cells + mc) (slots + ms) ls hP1 hS1 (by omega) (by omega) hL
theorem gx_obj {idx a : Nat} (hw : Cond.methodLink own idx objectInit ∈ gx_tbl) (hw2 : Cond.instanceMethod objectInit ∈ gx_tbl) (hw3 : Cond.code objectInit ⟨#[0xb1]⟩ 1 none ∈ gx_tbl) (hd : decode cc pc = .ok (.invokespecial idx, 3)) (hst : (st.map fun v => v.category).sum ≤ 8) (kk : gx_G E own cc nL rt ini (d + 1) bc bs (pc + 3) L st h em o) : gx_G E own cc nL rt ini (d + 1) bc bs pc L (.ref a :: st) h em o := by
  refine fun r h' ho p e R s m args below meth c Q F hR H locs cells slots ls hP hS hc hs hL => ?_
  have hfr := F.2.2.2.2.2.2.1
  have hq := lv_room (m := m) (pc := pc) (ls := ls) (rest := ((.ref a :: st).map (gx_v E))) (gx_rm F.fm hst)
  refine W.objInit F.1 F.2.1 F.2.2.2.1 (F.2.2.2.2.1 _ hw) (F.2.2.2.2.1 _ hw2) (F.2.2.2.2.1 _ hw3) rfl (hL.2.1.trans F.2.2.1.symm) (rest := st.map (gx_v E)) rfl hd (by omega) (by omega) ?_
  exact kk r h' ho p e R s m args below meth c Q F hR H locs cells slots ls hP hS hc hs hL
theorem gx_none : gx_G E own cc nL rt ini d bc bs pc L st h em none := fun r h' ho => by cases ho
/-- fewer locals are looked at -/
def gx_le : List (Option Value) → List (Option Value) → Prop
  | [], [] => True
  | _ :: a, none :: b => gx_le a b
  | some v :: a, some w :: b => v = w ∧ gx_le a b
  | _, _ => False
theorem gx_le_len : ∀ (a b : List (Option Value)), gx_le a b → a.length = b.length
  | [], [], _ => rfl
  | [], none :: b, q => q.elim
  | [], some _ :: b, q => q.elim
  | _ :: a, [], q => by cases ‹Option Value› <;> exact q.elim
  | none :: a, none :: b, q => congrArg (· + 1) (gx_le_len a b q)
  | some _ :: a, none :: b, q => congrArg (· + 1) (gx_le_len a b q)
  | some _ :: a, some _ :: b, q => congrArg (· + 1) (gx_le_len a b q.2)
  | none :: a, some _ :: b, q => q.elim
theorem gx_le_at : ∀ (a b : List (Option Value)), gx_le a b → ∀ (i : Nat) (v : Value), b[i]? = some (some v) → a[i]? = some (some v)
  | [], [], _, i, v, h => by simp at h
  | [], none :: b, q, i, v, h => q.elim
  | [], some _ :: b, q, i, v, h => q.elim
  | _ :: a, [], q, i, v, h => by simp at h
  | none :: a, none :: b, q, i, v, h => by
    cases i with
    | zero => simp at h
    | succ i => exact gx_le_at a b q i v h
  | some _ :: a, none :: b, q, i, v, h => by
    cases i with
    | zero => simp at h
    | succ i => exact gx_le_at a b q i v h
  | some x :: a, some y :: b, q, i, v, h => by
    cases i with
    | zero => rw [q.1]; exact h
    | succ i => exact gx_le_at a b q.2 i v h
  | none :: a, some _ :: b, q, i, v, h => q.elim
theorem gx_sub {L' : List (Option Value)} (k : gx_G E own cc nL rt ini d bc bs pc L' st h em o) (hl : gx_le L L') : gx_G E own cc nL rt ini d bc bs pc L st h em o := by
  intro r h' ho p e R s m args below meth c Q F hR H locs cells slots ls hP hS hc hs hL
  refine k r h' ho p e R s m args below meth c Q F hR H locs cells slots ls hP hS hc hs ⟨(gx_le_len L L' hl).symm.trans hL.1, hL.2.1, hL.2.2.1, fun q hq => ?_⟩
  obtain ⟨⟨j, w⟩, hj, rfl⟩ := List.mem_map.mp hq
  have hj := ((gx_as_iff _ 0 j w).mp hj).2
  rw [Nat.sub_zero] at hj
  exact hL.at (gx_le_at L L' hl j w hj)
theorem gx_letG {a : gx_H} {f : gx_H → Option (ρ × gx_H)} (k : gx_G E own cc nL rt ini d bc bs pc L st h em (f a)) : gx_G E own cc nL rt ini d bc bs pc L st h em (gx_let a f) := k
theorem gx_w8 {st : List Value} (q : Nat.ble ((st.map fun v => v.category).sum) 8 = true) : (st.map fun v => v.category).sum ≤ 8 := Nat.le_of_ble_eq_true q
/-! ends -/
theorem gx_iret {x : Int32} (hd : decode cc pc = .ok (.ireturn, 1)) (hr : rt = some .int) : gx_G E own cc nL rt ini d bc bs pc L [.int x] h (fun x : Int32 => some (.int x)) (some (x, h)) := by
  intro r h' ho p e R s m args below meth c Q F hR H locs cells slots ls hP hS hc hs hL
  cases ho
  exact hR H locs cells slots pc ls hP hS (by omega) (by omega) ⟨hd, _, hr, rfl⟩
def gx_ret (ty : FieldType) (x : Int32) (h : gx_H) : Option (Int32 × gx_H) := if narrow ty (.int x) = .int x then some (x, h) else none
theorem gx_zret {ty : FieldType} {x : Int32} (hd : decode cc pc = .ok (.ireturn, 1)) (hr : rt = some ty) : gx_G E own cc nL rt ini d bc bs pc L [.int x] h (fun x : Int32 => some (.int x)) (gx_ret ty x h) := by
  intro r h' ho p e R s m args below meth c Q F hR H locs cells slots ls hP hS hc hs hL
  unfold gx_ret at ho
  split at ho
  · rename_i hn
    cases ho
    exact hR H locs cells slots pc ls hP hS (by omega) (by omega) ⟨hd, _, hr, hn⟩
  · cases ho
theorem gx_lret {x : Int64} (hd : decode cc pc = .ok (.lreturn, 1)) (hr : rt = some .long) : gx_G E own cc nL rt ini d bc bs pc L [.long x] h (fun x : Int64 => some (.long x)) (some (x, h)) := by
  intro r h' ho p e R s m args below meth c Q F hR H locs cells slots ls hP hS hc hs hL
  cases ho
  exact hR H locs cells slots pc ls hP hS (by omega) (by omega) ⟨hd, hr⟩
theorem gx_aret {x : Nat} {ty : FieldType} (hd : decode cc pc = .ok (.areturn, 1)) (hr : rt = some ty) (hty : (∃ n, ty = .object n) ∨ ∃ t, ty = .array t) : gx_G E own cc nL rt ini d bc bs pc L [.ref x] h (fun x : Nat => some (.ref x)) (some (x, h)) := by
  intro r h' ho p e R s m args below meth c Q F hR H locs cells slots ls hP hS hc hs hL
  cases ho
  exact hR H locs cells slots pc ls hP hS (by omega) (by omega) ⟨hd, _, hr, hty⟩
theorem gx_vret (hd : decode cc pc = .ok (.return_, 1)) (hr : rt = none) : gx_G E own cc nL rt ini d bc bs pc L [] h (fun _ : Unit => none) (some ((), h)) := by
  intro r h' ho p e R s m args below meth c Q F hR H locs cells slots ls hP hS hc hs hL
  cases ho
  exact hR H locs cells slots pc ls hP hS (by omega) (by omega) ⟨hd, hr⟩
/-- a method, out of its body -/
theorem gx_meth {y : MethodName} {mc ms : Nat} (As : List Value) {r : ρ} {h' : gx_H} (hy : plainName y.cls = true) (hlen : (gx_sl As).length ≤ nL) (hini : ini = true → y.name = "<init>")
    (hg : gx_G E y.cls cc nL rt ini d mc ms 0 (gx_L0 nL As) [] h em o) (ho : o = some (r, h')) : gx_M E y cc nL rt d mc ms As h (em r) h' := by
  refine Met.ofW (cc := cc) (maxL := nL) (ret := rt) hy rfl ?_
  intro p e s m args below meth c s₁ B hml hv
  obtain ⟨rfl, hP, hok, hb⟩ := hv
  have hts := atoms_spec (ws := Cond.code y cc nL rt :: gx_tbl) B.pre
  have hown : s.vm.findClass y.cls = some m.cls := findClass_of_methodNamed B.named
  have F : gx_F E y.cls cc nL d ini p ({ frames := d, cells := mc, slots := ms, locals := 64 * d } : Room) s m (As.map (gx_v E)).toArray meth c := ⟨B.exec, B.bytes, hml, hown, fun w hw => hts w (List.mem_cons_of_mem _ hw), hok, ⟨Nat.le_refl _, Nat.le_refl _⟩, fun q => (name_of_methodNamed B.named B.method).1.trans (hini q), hb⟩
  rw [lg_entry_eq]
  refine hg r h' ho p e ({ frames := d, cells := mc, slots := ms, locals := 64 * d } : Room) s m (As.map (gx_v E)).toArray below meth c _ F ?_ s.heap [] 0 0 _ hP va_S.rf (by show 0 + mc ≤ mc; omega) (by show 0 + ms ≤ ms; omega) (gx_entry F.fm As hlen)
  intro H locs cells slots pc ls hP' hS' hc' hs' hret
  have hlocks := B.notSynchronized
  have hrt := B.returns
  refine W.widen (k := mc) (n := ms) hc' hs' ?_
  generalize em r = v at hret
  match v, hret with
  | some (.int x), hret =>
    obtain ⟨h1, ty, h2, h3⟩ := hret
    exact W.zret B.exec B.bytes (hrt.trans h2) h3 (fun t ht _ => ⟨rfl, by rw [ht]; exact hP', hS'.F ht⟩) hS'.2.2 h1
  | some (.long x), hret =>
    obtain ⟨h1, h2⟩ := hret
    exact W.lret B.exec B.bytes (hrt.trans h2) (fun t ht _ => ⟨rfl, by rw [ht]; exact hP', hS'.F ht⟩) hS'.2.2 h1
  | some (.ref x), hret =>
    obtain ⟨h1, ty, h2, h3⟩ := hret
    exact W.aret B.exec B.bytes (hrt.trans h2) h3 (Or.inr ⟨_, rfl⟩) (fun t ht _ => ⟨rfl, by rw [ht]; exact hP', hS'.F ht⟩) hS'.2.2 h1
  | none, hret =>
    obtain ⟨h1, h2⟩ := hret
    exact W.vret B.exec B.bytes (hrt.trans h2) (fun t ht _ => ⟨rfl, by rw [ht]; exact hP', hS'.F ht⟩) hS'.2.2 h1
end GXC
