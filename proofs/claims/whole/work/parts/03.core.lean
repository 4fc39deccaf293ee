/-! GX: cells by number. A cell is an array (the number of its type, its length, what it holds) or an object (the number of its class in vwCl, its fields). A reference is the number of a cell in the order in which the run makes them; .retAddr i stands for a thing from outside: 0 .. 4 the texts, 5 .. 9 their bytes, 10 the formatter, 11 the script. -/
def gx_tbl : List Cond := lw_tbl.filter goodWord
theorem gx_mem (i : Nat) {w : Cond} (h : lw_tbl[i]? = some w) (hg : goodWord w = true) : w ∈ gx_tbl := List.mem_filter.mpr ⟨List.mem_of_getElem? h, hg⟩
theorem gx_good {w : Cond} (h : w ∈ gx_tbl) : GoodIn gx_tbl (w :: gx_tbl) := by
  intro v hv
  have hv' : v ∈ gx_tbl := by
    rcases List.mem_cons.mp hv with rfl | hv
    · exact h
    · exact hv
  exact ⟨hv', good_of_word (List.mem_filter.mp hv').2⟩
abbrev gx_C : Type := (Nat × vp_A) ⊕ (Nat × List Value)
abbrev gx_H : Type := Nat × (Nat → gx_C)
/-- launch; base; addresses of the things outside, the formatter; array classes; classes; the script -/
abbrev gx_Env : Type := Launch × Nat × ((Nat → Nat) × Value) × (Nat → ClassId) × va_G × (Nat × (Nat → Int32))
abbrev gx_l (E : gx_Env) : Launch := E.1
abbrev gx_b (E : gx_Env) : Nat := E.2.1
abbrev gx_aK (E : gx_Env) : Nat → Nat := E.2.2.1.1
abbrev gx_cT (E : gx_Env) : Nat → ClassId := E.2.2.2.1
abbrev gx_D (E : gx_Env) : va_G := E.2.2.2.2.1
abbrev gx_sN (E : gx_Env) : Nat := E.2.2.2.2.2.1
abbrev gx_sX (E : gx_Env) : Nat → Int32 := E.2.2.2.2.2.2
def gx_A (E : gx_Env) : Nat → Prop := fun q => gx_b E ≤ q
def gx_junk : gx_C := .inr (1000, [])
def gx_k (E : gx_Env) (i : Nat) : Value := if i = 10 then E.2.2.1.2 else .ref (gx_aK E i)
def gx_v (E : gx_Env) : Value → Value
  | .ref k => .ref (gx_b E + k)
  | .retAddr i => gx_k E i
  | v => v
def gx_ar (b : Nat) : ((Nat → Int32) ⊕ (Nat → Int64) ⊕ (Nat → UInt32) ⊕ (Nat → UInt64) ⊕ (Nat → Option Nat)) → ((Nat → Int32) ⊕ (Nat → Int64) ⊕ (Nat → UInt32) ⊕ (Nat → UInt64) ⊕ (Nat → Option Nat))
  | .inr (.inr (.inr (.inr f))) => .inr (.inr (.inr (.inr (fun j => (f j).map (fun k => b + k)))))
  | a => a
def gx_e (E : gx_Env) : gx_C → va_E
  | .inl x => .inl (gx_cT E x.1, x.2.1, gx_ar (gx_b E) x.2.2)
  | .inr o => .inr (o.1, o.2.map (gx_v E))
def gx_tys (E : gx_Env) : List (ClassId × FieldType) := [(gx_cT E 0, .int), (gx_cT E 1, .byte), (gx_cT E 2, .boolean), (gx_cT E 3, .object RX8), (gx_cT E 4, .object RX1)]
def gx_P (E : gx_Env) (h : gx_H) (H : Heap) : Prop := H.size = gx_b E + h.1 ∧ (∀ k, k < h.1 → va_at (gx_D E) vwCl (gx_b E + k, gx_e E (h.2 k)) H) ∧ ∀ k, h.1 ≤ k → h.2 k = gx_junk
/-- the private members of nest mates -/
def gx_nest : List (String × Nat × MethodName) := [(RX10, 9, yX1_init), (RX1, 9, yX0_init), (RX1, 18, yX3_init), (RX3, 31, yX8_init), (RX1, 25, yX7_init), (RX10, 26, yX9_init), (RX9, 17, yX0_init), (RX9, 28, yX8_init), (RX10, 33, yX5_init), (RX5, 11, yX0_init), (RX10, 40, yX2_init), (RX9, 128, yX10_within), (RX5, 56, yX10_within), (RX5, 107, yX10_power), (RX5, 140, yX10_leftOver)]
def gx_txt : List (Nat × String) := [(55, "board"), (72, "link"), (77, "player"), (82, "set"), (87, "throw")]
def gx_len : List Nat := [5, 4, 6, 3, 5]
def gx_byt : List (List Int32) := [[98, 111, 97, 114, 100], [108, 105, 110, 107], [112, 108, 97, 121, 101, 114], [115, 101, 116], [116, 104, 114, 111, 119]]
/-- what comes from outside -/
def gx_out (E : gx_Env) (U : State) (H : Heap) : Prop :=
  vk_S 5 gx_len gx_byt (gx_aK E) (fun i => gx_aK E (5 + i)) (gx_A E) U H ∧ (∀ (i : Nat) (q : Nat × String), gx_txt[i]? = some q → vk_R RX9 q.1 q.2 (gx_aK E i) U) ∧
  va_Z "java/lang/String" "COMPACT_STRINGS" "Z" (.int 1) (gx_A E) U H ∧ va_Z "jdk/internal/util/Preconditions" "SIOOBE_FORMATTER" "Ljava/util/function/BiFunction;" E.2.2.1.2 (gx_A E) U H ∧ (E.2.2.1.2 = .null ∨ ∃ t, E.2.2.1.2 = .ref t) ∧
  va_X (gx_aK E 11) (gx_sN E) (gx_sX E) U H ∧ gx_aK E 11 < gx_b E
def gx_ok (E : gx_Env) (U : State) (H : Heap) : Prop := va_K (gx_D E) vwCl (gx_tys E) U ∧ (∀ q ∈ gx_nest, va_Nw (.methodLinkNest q.1 q.2.1 q.2.2 RX10) U) ∧ va_AO RX8 U ∧ va_AO RX1 U ∧ gx_out E U H
theorem gx_ok.warm {E : gx_Env} {s U : State} {H : Heap} (hW : s.WarmedH U.vm) (h : gx_ok E s H) : gx_ok E U H := by
  obtain ⟨h1, h2, h3, h4, h5, h6, h7, h8, h9, h10, h11⟩ := h
  exact ⟨h1.moved hW.alike, fun q hq => (h2 q hq).warmM hW, h3.moved hW.alike, h4.moved hW.alike, h5.moved hW.alike, fun i q hq => (h6 i q hq).warm hW, h7.moved hW.alike, h8.moved hW.alike, h9, h10.moved hW.alike, h11⟩
theorem gx_ok.same {E : gx_Env} {s U : State} {H : Heap} (hv : U.vm = s.vm) (h : gx_ok E s H) : gx_ok E U H := by
  have ha : s.vm.Alike U.vm := by rw [hv]; exact Vm.Alike.refl _
  obtain ⟨h1, h2, h3, h4, h5, h6, h7, h8, h9, h10, h11⟩ := h
  exact ⟨h1.moved ha, fun q hq => (h2 q hq).same rfl hv.symm, h3.moved ha, h4.moved ha, h5.moved ha, fun i q hq => (h6 i q hq).same hv, h7.moved ha, h8.moved ha, h9, h10.moved ha, h11⟩
theorem gx_ok.kept {E : gx_Env} {U : State} {H H1 : Heap} (hs : gx_b E ≤ H.size) (hq : ∀ a : Nat, a < H.size → ¬ gx_A E a → H1[a]? = H[a]?) (h : gx_ok E U H) : gx_ok E U H1 := by
  obtain ⟨h1, h2, h3, h4, h5, h6, h7, h8, h9, h10, h11⟩ := h
  exact ⟨h1, h2, h3, h4, h5.kept hq, h6, h7.kept hq, h8.kept hq, h9, h10.kept (hq _ (by omega) (by show ¬ gx_b E ≤ _; omega)), h11⟩
theorem gx_P.lt {E : gx_Env} {h : gx_H} {H : Heap} (hP : gx_P E h H) {k : Nat} (hk : h.2 k ≠ gx_junk) : k < h.1 := Nat.not_le.mp fun q => hk (hP.2.2 k q)
theorem gx_P.set {E : gx_Env} {h : gx_H} {H H1 : Heap} (hP : gx_P E h H) {k : Nat} {c : gx_C} (hk : k < h.1) (hz : H1.size = H.size) (ho : ∀ q, q ≠ gx_b E + k → H1[q]? = H[q]?) (ha : va_at (gx_D E) vwCl (gx_b E + k, gx_e E c) H1) : gx_P E (h.1, va_up h.2 k c) H1 := by
  refine ⟨hz.trans hP.1, fun j hj => ?_, fun j hj => ?_⟩
  · by_cases e : j = k
    · subst e
      rw [show ((h.1, va_up h.2 j c) : gx_H).2 j = c from va_up_self _ _ _]
      exact ha
    · rw [show ((h.1, va_up h.2 k c) : gx_H).2 j = h.2 j from va_up_ne _ _ e]
      exact (hP.2.1 j hj).kept (ho _ (by show gx_b E + j ≠ gx_b E + k; omega))
  · have hj' : h.1 ≤ j := hj
    rw [show ((h.1, va_up h.2 k c) : gx_H).2 j = h.2 j from va_up_ne _ _ (by omega)]
    exact hP.2.2 j hj
theorem gx_P.push {E : gx_Env} {h : gx_H} {H H1 : Heap} (hP : gx_P E h H) {c : gx_C} (hz : H1.size = H.size + 1) (ho : ∀ q, q < H.size → H1[q]? = H[q]?) (ha : va_at (gx_D E) vwCl (H.size, gx_e E c) H1) : gx_P E (h.1 + 1, va_up h.2 h.1 c) H1 := by
  have h1 := hP.1
  refine ⟨by rw [hz, h1]; rfl, fun j hj => ?_, fun j hj => ?_⟩
  · by_cases e : j = h.1
    · subst e
      rw [show ((h.1 + 1, va_up h.2 h.1 c) : gx_H).2 h.1 = c from va_up_self _ _ _, ← h1]
      exact ha
    · have hj' : j < h.1 + 1 := hj
      rw [show ((h.1 + 1, va_up h.2 h.1 c) : gx_H).2 j = h.2 j from va_up_ne _ _ e]
      exact (hP.2.1 j (by omega)).kept (ho _ (by show gx_b E + j < H.size; omega))
  · have hj' : h.1 + 1 ≤ j := hj
    rw [show ((h.1 + 1, va_up h.2 h.1 c) : gx_H).2 j = h.2 j from va_up_ne _ _ (by omega)]
    exact hP.2.2 j (by omega)
theorem gx_P.one {E : gx_Env} {h : gx_H} {H : Heap} (hP : gx_P E h H) {k : Nat} {c : gx_C} (hk : k < h.1) (hc : h.2 k = c) : va_P (gx_D E) vwCl [(gx_b E + k, gx_e E c)] H := by
  intro i q hq
  subst hc
  have hz : i < 1 := (List.getElem?_eq_some_iff.mp hq).1
  rw [show i = 0 by omega] at hq
  cases hq
  exact hP.2.1 k hk
/-! locals by their places -/
def gx_as : Nat → List (Option Value) → List (Nat × Value)
  | _, [] => []
  | i, none :: l => gx_as (i + 1) l
  | i, some v :: l => (i, v) :: gx_as (i + 1) l
theorem gx_as_iff : ∀ (l : List (Option Value)) (i j : Nat) (v : Value), (j, v) ∈ gx_as i l ↔ i ≤ j ∧ l[j - i]? = some (some v)
  | [], i, j, v => by simp [gx_as]
  | none :: l, i, j, v => by
    rw [gx_as, gx_as_iff l (i + 1) j v]
    constructor
    · rintro ⟨h1, h2⟩
      exact ⟨by omega, by rw [show j - i = (j - (i + 1)) + 1 by omega]; exact h2⟩
    · rintro ⟨h1, h2⟩
      by_cases e : j = i
      · subst e
        rw [Nat.sub_self] at h2
        cases h2
      · refine ⟨by omega, ?_⟩
        rw [show j - i = (j - (i + 1)) + 1 by omega] at h2
        exact h2
  | some w :: l, i, j, v => by
    rw [gx_as, List.mem_cons, gx_as_iff l (i + 1) j v]
    constructor
    · rintro (h | ⟨h1, h2⟩)
      · cases h
        exact ⟨Nat.le_refl _, by rw [Nat.sub_self]; rfl⟩
      · exact ⟨by omega, by rw [show j - i = (j - (i + 1)) + 1 by omega]; exact h2⟩
    · rintro ⟨h1, h2⟩
      by_cases e : j = i
      · subst e
        rw [Nat.sub_self] at h2
        cases h2
        exact Or.inl rfl
      · refine Or.inr ⟨by omega, ?_⟩
        rw [show j - i = (j - (i + 1)) + 1 by omega] at h2
        exact h2
def gx_L (E : gx_Env) (ls : Array Slot) (nL : Nat) (L : List (Option Value)) : Prop := L.length = nL ∧ lv_has ls nL ((gx_as 0 L).map (fun q => (q.1, gx_v E q.2)))
theorem gx_L.at {E : gx_Env} {ls : Array Slot} {nL : Nat} {L : List (Option Value)} (h : gx_L E ls nL L) {i : Nat} {v : Value} (hv : L[i]? = some (some v)) : ls[i]? = some (.val (gx_v E v)) :=
  h.2.2.2 (i, gx_v E v) (List.mem_map.mpr ⟨(i, v), (gx_as_iff L 0 i v).mpr ⟨Nat.zero_le _, hv⟩, rfl⟩)
def gx_kill (L : List (Option Value)) (i : Nat) : List (Option Value) := match i with
  | 0 => L
  | j + 1 => match L[j]? with
    | some (some (.long _)) => L.set j none
    | some (some (.double _)) => L.set j none
    | _ => L
def gx_set1 (L : List (Option Value)) (i : Nat) (v : Value) : List (Option Value) := (gx_kill L i).set i (some v)
def gx_set2 (L : List (Option Value)) (i : Nat) (v : Value) : List (Option Value) := ((gx_kill L i).set i (some v)).set (i + 1) none
theorem gx_kill_len (L : List (Option Value)) (i : Nat) : (gx_kill L i).length = L.length := by
  unfold gx_kill
  split
  · rfl
  · split <;> simp
/-- what is left where a place before is killed -/
theorem gx_kill_at {L : List (Option Value)} {i j : Nat} {v : Value} (h : (gx_kill L i)[j]? = some (some v)) : L[j]? = some (some v) ∧ ¬ (j + 1 = i ∧ ((∃ x, v = .long x) ∨ ∃ x, v = .double x)) := by
  unfold gx_kill at h
  split at h
  · exact ⟨h, fun q => by omega⟩
  · rename_i i
    split at h
    · rename_i x hx
      by_cases e : i = j
      · subst e
        rw [List.getElem?_set_self (List.getElem?_eq_some_iff.mp hx).1] at h
        cases h
      · rw [List.getElem?_set_ne e] at h
        exact ⟨h, fun q => e (by omega)⟩
    · rename_i x hx
      by_cases e : i = j
      · subst e
        rw [List.getElem?_set_self (List.getElem?_eq_some_iff.mp hx).1] at h
        cases h
      · rw [List.getElem?_set_ne e] at h
        exact ⟨h, fun q => e (by omega)⟩
    · rename_i hn1 hn2
      refine ⟨h, fun q => ?_⟩
      obtain ⟨q1, ⟨x, rfl⟩ | ⟨x, rfl⟩⟩ := q
      · have : j = i := by omega
        subst this
        exact hn1 x h
      · have : j = i := by omega
        subst this
        exact hn2 x h
/-- the formatter is a reference or null -/
def gx_fm (E : gx_Env) : Prop := E.2.2.1.2 = .null ∨ ∃ t, E.2.2.1.2 = .ref t
theorem gx_catv {E : gx_Env} (hE : gx_fm E) {v : Value} (h : (gx_v E v).category = 2) : (∃ x, v = .long x) ∨ ∃ x, v = .double x := by
  cases v with
  | long x => exact Or.inl ⟨x, rfl⟩
  | double x => exact Or.inr ⟨x, rfl⟩
  | retAddr i =>
    exfalso
    have h : (gx_k E i).category = 2 := h
    unfold gx_k at h
    split at h
    · rcases hE with e | ⟨t, e⟩ <;> rw [e] at h <;> simp [Value.category] at h
    · simp [Value.category] at h
  | int x => simp [gx_v, Value.category] at h
  | float x => simp [gx_v, Value.category] at h
  | null => simp [gx_v, Value.category] at h
  | ref x => simp [gx_v, Value.category] at h
theorem gx_L.set1 {E : gx_Env} (hE : gx_fm E) {ls ls' : Array Slot} {nL i : Nat} {L : List (Option Value)} {v : Value} (h : gx_L E ls nL L)
    (h' : lv_has ls' nL ((i, gx_v E v) :: ((gx_as 0 L).map (fun q => (q.1, gx_v E q.2))).filter (fun q => !(q.1 == i) && !(q.1 + 1 == i && q.2.category == 2)))) : gx_L E ls' nL (gx_set1 L i v) := by
  refine ⟨by rw [gx_set1, List.length_set, gx_kill_len]; exact h.1, h'.1, h'.2.1, fun q hq => ?_⟩
  obtain ⟨⟨j, w⟩, hj, rfl⟩ := List.mem_map.mp hq
  have hj := ((gx_as_iff _ 0 j w).mp hj).2
  rw [Nat.sub_zero] at hj
  refine h'.2.2 _ ?_
  rw [gx_set1] at hj
  by_cases e : i = j
  · subst e
    have hlt : i < (gx_kill L i).length := by
      have := (List.getElem?_eq_some_iff.mp hj).1
      rwa [List.length_set] at this
    rw [List.getElem?_set_self hlt] at hj
    cases hj
    exact List.mem_cons_self
  · rw [List.getElem?_set_ne e] at hj
    obtain ⟨h1, h2⟩ := gx_kill_at hj
    refine List.mem_cons_of_mem _ (List.mem_filter.mpr ⟨List.mem_map.mpr ⟨(j, w), (gx_as_iff L 0 j w).mpr ⟨Nat.zero_le _, h1⟩, rfl⟩, ?_⟩)
    simp only [Bool.and_eq_true, Bool.not_eq_true', beq_eq_false_iff_ne, ne_eq, Bool.and_eq_false_iff]
    refine ⟨fun q => e q.symm, ?_⟩
    by_cases e2 : j + 1 = i
    · exact Or.inr (fun q => h2 ⟨e2, gx_catv hE q⟩)
    · exact Or.inl e2
theorem gx_L.set2 {E : gx_Env} (hE : gx_fm E) {ls ls' : Array Slot} {nL i : Nat} {L : List (Option Value)} {v : Value} (h : gx_L E ls nL L)
    (h' : lv_has ls' nL ((i, gx_v E v) :: ((gx_as 0 L).map (fun q => (q.1, gx_v E q.2))).filter (fun q => !(q.1 == i) && (!(q.1 == i + 1) && !(q.1 + 1 == i && q.2.category == 2))))) : gx_L E ls' nL (gx_set2 L i v) := by
  refine ⟨by rw [gx_set2, List.length_set, List.length_set, gx_kill_len]; exact h.1, h'.1, h'.2.1, fun q hq => ?_⟩
  obtain ⟨⟨j, w⟩, hj, rfl⟩ := List.mem_map.mp hq
  have hj := ((gx_as_iff _ 0 j w).mp hj).2
  rw [Nat.sub_zero] at hj
  refine h'.2.2 _ ?_
  rw [gx_set2] at hj
  by_cases e0 : i + 1 = j
  · subst e0
    have hlt : i + 1 < ((gx_kill L i).set i (some v)).length := by
      have := (List.getElem?_eq_some_iff.mp hj).1
      rwa [List.length_set] at this
    rw [List.getElem?_set_self hlt] at hj
    cases hj
  rw [List.getElem?_set_ne e0] at hj
  by_cases e : i = j
  · subst e
    have hlt : i < (gx_kill L i).length := by
      have := (List.getElem?_eq_some_iff.mp hj).1
      rwa [List.length_set] at this
    rw [List.getElem?_set_self hlt] at hj
    cases hj
    exact List.mem_cons_self
  · rw [List.getElem?_set_ne e] at hj
    obtain ⟨h1, h2⟩ := gx_kill_at hj
    refine List.mem_cons_of_mem _ (List.mem_filter.mpr ⟨List.mem_map.mpr ⟨(j, w), (gx_as_iff L 0 j w).mpr ⟨Nat.zero_le _, h1⟩, rfl⟩, ?_⟩)
    simp only [Bool.and_eq_true, Bool.not_eq_true', beq_eq_false_iff_ne, ne_eq, Bool.and_eq_false_iff]
    refine ⟨fun q => e q.symm, fun q => e0 q.symm, ?_⟩
    by_cases e2 : j + 1 = i
    · exact Or.inr (fun q => h2 ⟨e2, gx_catv hE q⟩)
    · exact Or.inl e2
/-! the locals with which a method begins -/
def gx_sl : List Value → List (Option Value)
  | [] => []
  | .long x :: l => some (.long x) :: none :: gx_sl l
  | .double x :: l => some (.double x) :: none :: gx_sl l
  | v :: l => some v :: gx_sl l
def gx_L0 (nL : Nat) (As : List Value) : List (Option Value) := gx_sl As ++ List.replicate (nL - (gx_sl As).length) none
theorem gx_as_rep (n : Nat) : ∀ i, gx_as i (List.replicate n none) = [] := by
  induction n with
  | zero => intro i; rfl
  | succ n ih => intro i; exact ih (i + 1)
theorem gx_as_app : ∀ (a b : List (Option Value)) (i : Nat), gx_as i (a ++ b) = gx_as i a ++ gx_as (i + a.length) b
  | [], b, i => by simp [gx_as]
  | none :: a, b, i => by
    show gx_as (i + 1) (a ++ b) = gx_as (i + 1) a ++ _
    rw [gx_as_app a b (i + 1), List.length_cons, show i + (a.length + 1) = i + 1 + a.length by omega]
  | some v :: a, b, i => by
    show (i, v) :: gx_as (i + 1) (a ++ b) = ((i, v) :: gx_as (i + 1) a) ++ _
    rw [gx_as_app a b (i + 1), List.length_cons, show i + (a.length + 1) = i + 1 + a.length by omega]
    rfl
theorem gx_cat1 {E : gx_Env} (hE : gx_fm E) {v : Value} (h1 : ∀ x, v ≠ .long x) (h2 : ∀ x, v ≠ .double x) : (gx_v E v).category ≠ 2 := fun q => (gx_catv hE q).elim (fun ⟨x, e⟩ => h1 x e) (fun ⟨x, e⟩ => h2 x e)
theorem gx_sl_as {E : gx_Env} (hE : gx_fm E) : ∀ (As : List Value) (i : Nat), (gx_as i (gx_sl As)).map (fun q => (q.1, gx_v E q.2)) = lv_args i (As.map (gx_v E))
  | [], i => rfl
  | v :: l, i => by
    cases v with
    | long x =>
      show (i, Value.long x) :: (gx_as (i + 1 + 1) (gx_sl l)).map _ = (i, Value.long x) :: lv_args (i + 2) _
      rw [gx_sl_as hE l (i + 1 + 1)]
    | double x =>
      show (i, Value.double x) :: (gx_as (i + 1 + 1) (gx_sl l)).map _ = (i, Value.double x) :: lv_args (i + 2) _
      rw [gx_sl_as hE l (i + 1 + 1)]
    | retAddr k =>
      show (i, gx_k E k) :: (gx_as (i + 1) (gx_sl l)).map _ = (i, gx_k E k) :: lv_args (if (gx_k E k).category = 2 then i + 2 else i + 1) _
      rw [if_neg (show ¬ (gx_k E k).category = 2 from gx_cat1 (v := .retAddr k) hE (fun x q => by cases q) (fun x q => by cases q)), gx_sl_as hE l (i + 1)]
    | int x =>
      show (i, Value.int x) :: (gx_as (i + 1) (gx_sl l)).map _ = (i, Value.int x) :: lv_args (i + 1) _
      rw [gx_sl_as hE l (i + 1)]
    | float x =>
      show (i, Value.float x) :: (gx_as (i + 1) (gx_sl l)).map _ = (i, Value.float x) :: lv_args (i + 1) _
      rw [gx_sl_as hE l (i + 1)]
    | null =>
      show (i, Value.null) :: (gx_as (i + 1) (gx_sl l)).map _ = (i, Value.null) :: lv_args (i + 1) _
      rw [gx_sl_as hE l (i + 1)]
    | ref x =>
      show (i, Value.ref (gx_b E + x)) :: (gx_as (i + 1) (gx_sl l)).map _ = (i, Value.ref (gx_b E + x)) :: lv_args (i + 1) _
      rw [gx_sl_as hE l (i + 1)]
theorem gx_sl_len {E : gx_Env} (hE : gx_fm E) : ∀ (As : List Value), (gx_sl As).length = (lg_sl (As.map (gx_v E))).length
  | [] => rfl
  | v :: l => by
    have ih := gx_sl_len hE l
    have e : ∀ w : Value, lg_sl ((v :: l).map (gx_v E)) = lg_sl [gx_v E v] ++ lg_sl (l.map (gx_v E)) := fun w => by simp [lg_sl]
    rw [e v, List.length_append, ← ih]
    cases v with
    | long x => simp [gx_sl, lg_sl, gx_v, Value.category]; omega
    | double x => simp [gx_sl, lg_sl, gx_v, Value.category]; omega
    | retAddr k =>
      have hk : ¬ (gx_v E (.retAddr k)).category = 2 := gx_cat1 hE (fun x q => by cases q) (fun x q => by cases q)
      simp [gx_sl, lg_sl, hk]; omega
    | int x => simp [gx_sl, lg_sl, gx_v, Value.category]; omega
    | float x => simp [gx_sl, lg_sl, gx_v, Value.category]; omega
    | null => simp [gx_sl, lg_sl, gx_v, Value.category]; omega
    | ref x => simp [gx_sl, lg_sl, gx_v, Value.category]; omega
theorem gx_entry {E : gx_Env} (hE : gx_fm E) (As : List Value) {nL : Nat} (h : (gx_sl As).length ≤ nL) : gx_L E ((lg_sl (As.map (gx_v E)) ++ List.replicate (nL - (lg_sl (As.map (gx_v E))).length) Slot.unset).toArray) nL (gx_L0 nL As) := by
  refine ⟨by simp [gx_L0]; omega, ?_⟩
  rw [gx_L0, gx_as_app, gx_as_rep, List.append_nil, gx_sl_as hE]
  exact lv_entry _ (by rw [← gx_sl_len hE]; exact h)
