/-! things from outside: texts, their bytes, statics, the script -/
def gx_kis (w : Nat) : Option Unit := if w < 5 then some () else none
def gx_kc (w : Nat) : Option Int32 := if w < 5 then some 0 else none
def gx_kv (w : Nat) : Option Nat := if w < 5 then some (5 + w) else none
def gx_kl (w : Nat) : Option Int32 := if 5 ≤ w ∧ w < 10 then some (Int32.ofNat (gx_len.getD (w - 5) 0)) else none
def gx_kb (w : Nat) (i : Int32) : Option Int32 := if (5 ≤ w ∧ w < 10) ∧ ¬ (i < 0 ∨ gx_len.getD (w - 5) 0 ≤ i.toNatClampNeg) then some ((gx_byt.getD (w - 5) []).getD i.toNatClampNeg 0) else none
def gx_sc (E : gx_Env) (i : Int32) : Option Int32 := if ¬ (i < 0 ∨ gx_sN E ≤ i.toNatClampNeg) then some (gx_sX E i.toNatClampNeg) else none
theorem gx_kis_of {α : Type} {w : Nat} {f : Unit → Option α} {x : α} (q : (gx_kis w).bind f = some x) : w < 5 := by
  obtain ⟨u, hu, -⟩ := Option.bind_eq_some_iff.mp q
  unfold gx_kis at hu
  split at hu
  · assumption
  · cases hu
section GXK
variable {E : gx_Env} {own : String} {cc : ByteArray} {nL : Nat} {rt : Option FieldType} {ini : Bool} {d bc bs pc : Nat} {L : List (Option Value)} {st : List Value} {h : gx_H} {ρ : Type} {em : ρ → Option Value} {o o1 o2 : Option (ρ × gx_H)}
theorem gx_ldcS {i idx : Nat} {tx : String} (hi : i ≠ 10) (hq : gx_txt[i]? = some (idx, tx)) (hown : own = RX9) (hd : decode cc pc = .ok (.ldc idx, 2)) (k : gx_G E own cc nL rt ini d bc bs (pc + 2) L (.retAddr i :: st) h em o) : gx_G E own cc nL rt ini d bc bs pc L st h em o := by
  subst hown
  refine gx_pure (fun F hL k => ?_) k
  rw [List.map_cons, gx_kref hi] at k
  exact va_ldcS F.1 F.2.1 F.2.2.2.1 (F.2.2.2.2.2.1.2.2.2.2.2.1 i _ hq) hd k
theorem gx_kval {idx w : Nat} {f : Nat → Option (ρ × gx_H)} (hw : Cond.fieldLink own idx "java/lang/String" "value" "[B" ∈ gx_tbl) (hd : decode cc pc = .ok (.getfield idx, 3)) (kk : ∀ x, gx_G E own cc nL rt ini d bc bs (pc + 3) L (.retAddr x :: st) h em (f x)) : gx_G E own cc nL rt ini d bc bs pc L (.retAddr w :: st) h em ((gx_kv w).bind f) := by
  refine gx_bind fun x hx => ?_
  unfold gx_kv at hx
  split at hx
  · rename_i hw5
    cases hx
    intro r h' ho p e R s m args below meth c Q F hR H locs cells slots ls hP hS hc hs hL
    rw [List.map_cons, gx_kref (by omega)]
    have k := kk (5 + w) r h' ho p e R s m args below meth c Q F hR H locs cells slots ls hP hS hc hs hL
    rw [List.map_cons, gx_kref (by omega)] at k
    exact vk_getf F.1 F.2.1 (F.2.2.2.2.2.1.2.2.2.2.1.1 w hw5).2.2.1 hS F.2.2.2.1 (F.2.2.2.2.1 _ hw) (fun x hx => hx) hd k
  · cases hx
theorem gx_kcod {idx w : Nat} {f : Int32 → Option (ρ × gx_H)} (hw : Cond.fieldLink own idx "java/lang/String" "coder" "B" ∈ gx_tbl) (hd : decode cc pc = .ok (.getfield idx, 3)) (kk : ∀ x, gx_G E own cc nL rt ini d bc bs (pc + 3) L (.int x :: st) h em (f x)) : gx_G E own cc nL rt ini d bc bs pc L (.retAddr w :: st) h em ((gx_kc w).bind f) := by
  refine gx_bind fun x hx => ?_
  unfold gx_kc at hx
  split at hx
  · rename_i hw5
    cases hx
    intro r h' ho p e R s m args below meth c Q F hR H locs cells slots ls hP hS hc hs hL
    rw [List.map_cons, gx_kref (by omega)]
    exact vk_getf F.1 F.2.1 (F.2.2.2.2.2.1.2.2.2.2.1.1 w hw5).2.1 hS F.2.2.2.1 (F.2.2.2.2.1 _ hw) (fun x hx => hx) hd (kk 0 r h' ho p e R s m args below meth c Q F hR H locs cells slots ls hP hS hc hs hL)
  · cases hx
theorem gx_klen {w : Nat} {f : Int32 → Option (ρ × gx_H)} (hd : decode cc pc = .ok (.arraylength, 1)) (kk : ∀ x, gx_G E own cc nL rt ini d bc bs (pc + 1) L (.int x :: st) h em (f x)) : gx_G E own cc nL rt ini d bc bs pc L (.retAddr w :: st) h em ((gx_kl w).bind f) := by
  refine gx_bind fun x hx => ?_
  unfold gx_kl at hx
  split at hx
  · rename_i hw5
    cases hx
    intro r h' ho p e R s m args below meth c Q F hR H locs cells slots ls hP hS hc hs hL
    rw [List.map_cons, gx_kref (by omega)]
    have hT := (F.2.2.2.2.2.1.2.2.2.2.1.1 (w - 5) (by omega)).2.2.2
    have e5 : 5 + (w - 5) = w := by omega
    dsimp only at hT
    rw [e5] at hT
    exact va_tlen F.1 F.2.1 hT hS rfl hd (kk _ r h' ho p e R s m args below meth c Q F hR H locs cells slots ls hP hS hc hs hL)
  · cases hx
theorem gx_kbyt {w : Nat} {i : Int32} {f : Int32 → Option (ρ × gx_H)} (hd : decode cc pc = .ok (.baload, 1)) (kk : ∀ x, gx_G E own cc nL rt ini d bc bs (pc + 1) L (.int x :: st) h em (f x)) : gx_G E own cc nL rt ini d bc bs pc L (.int i :: .retAddr w :: st) h em ((gx_kb w i).bind f) := by
  refine gx_bind fun x hx => ?_
  unfold gx_kb at hx
  split at hx
  · rename_i hw5
    obtain ⟨hw5, hin⟩ := hw5
    cases hx
    intro r h' ho p e R s m args below meth c Q F hR H locs cells slots ls hP hS hc hs hL
    rw [List.map_cons, List.map_cons, gx_kref (by omega)]
    have hT := (F.2.2.2.2.2.1.2.2.2.2.1.1 (w - 5) (by omega)).2.2.2
    have e5 : 5 + (w - 5) = w := by omega
    dsimp only at hT
    rw [e5] at hT
    exact va_tb F.1 F.2.1 hT hS hin rfl hd (kk _ r h' ho p e R s m args below meth c Q F hR H locs cells slots ls hP hS hc hs hL)
  · cases hx
theorem gx_stC {idx : Nat} (hw : Cond.fieldLink own idx "java/lang/String" "COMPACT_STRINGS" "Z" ∈ gx_tbl) (hd : decode cc pc = .ok (.getstatic idx, 3)) (kk : gx_G E own cc nL rt ini d bc bs (pc + 3) L (.int 1 :: st) h em o) : gx_G E own cc nL rt ini d bc bs pc L st h em o := by
  intro r h' ho p e R s m args below meth c Q F hR H locs cells slots ls hP hS hc hs hL
  exact va_gets F.1 F.2.1 F.2.2.2.2.2.1.2.2.2.2.2.2.1 hS F.2.2.2.1 (F.2.2.2.2.1 _ hw) (fun x hx => hx) hd (kk r h' ho p e R s m args below meth c Q F hR H locs cells slots ls hP hS hc hs hL)
theorem gx_stF {idx : Nat} (hw : Cond.fieldLink own idx "jdk/internal/util/Preconditions" "SIOOBE_FORMATTER" "Ljava/util/function/BiFunction;" ∈ gx_tbl) (hd : decode cc pc = .ok (.getstatic idx, 3)) (kk : gx_G E own cc nL rt ini d bc bs (pc + 3) L (.retAddr 10 :: st) h em o) : gx_G E own cc nL rt ini d bc bs pc L st h em o := by
  intro r h' ho p e R s m args below meth c Q F hR H locs cells slots ls hP hS hc hs hL
  exact va_gets F.1 F.2.1 F.2.2.2.2.2.1.2.2.2.2.2.2.2.1 hS F.2.2.2.1 (F.2.2.2.2.1 _ hw) (fun x hx => hx) hd (kk r h' ho p e R s m args below meth c Q F hR H locs cells slots ls hP hS hc hs hL)
theorem gx_sld {i : Int32} {f : Int32 → Option (ρ × gx_H)} (hd : decode cc pc = .ok (.iaload, 1)) (kk : ∀ x, gx_G E own cc nL rt ini d bc bs (pc + 1) L (.int x :: st) h em (f x)) : gx_G E own cc nL rt ini d bc bs pc L (.int i :: .retAddr 11 :: st) h em ((gx_sc E i).bind f) := by
  refine gx_bind fun x hx => ?_
  unfold gx_sc at hx
  split at hx
  · rename_i hin
    cases hx
    intro r h' ho p e R s m args below meth c Q F hR H locs cells slots ls hP hS hc hs hL
    have hx := F.2.2.2.2.2.1.2.2.2.2.2.2.2.2.2
    have hb := F.2.2.2.2.2.2.2.2
    exact va_sld F.1 F.2.1 hx.1 (Nat.lt_of_lt_of_le hx.2 hb) (by show ¬ gx_b E ≤ _; have := hx.2; omega) hS hin hd (kk _ r h' ho p e R s m args below meth c Q F hR H locs cells slots ls hP hS hc hs hL)
  · cases hx
theorem gx_slen (hd : decode cc pc = .ok (.arraylength, 1)) (kk : gx_G E own cc nL rt ini d bc bs (pc + 1) L (.int (Int32.ofNat (gx_sN E)) :: st) h em o) : gx_G E own cc nL rt ini d bc bs pc L (.retAddr 11 :: st) h em o := by
  intro r h' ho p e R s m args below meth c Q F hR H locs cells slots ls hP hS hc hs hL
  have hx := F.2.2.2.2.2.1.2.2.2.2.2.2.2.2.2
  have hb := F.2.2.2.2.2.2.2.2
  exact va_slen F.1 F.2.1 hx.1 (Nat.lt_of_lt_of_le hx.2 hb) (by show ¬ gx_b E ≤ _; have := hx.2; omega) hS hd (kk r h' ho p e R s m args below meth c Q F hR H locs cells slots ls hP hS hc hs hL)
theorem gx_callK {idx n mc ms : Nat} {y : MethodName} {cy : ByteArray} {ny : Nat} {ρ' : Type} {em' : ρ' → Option Value} {f : Option (ρ' × gx_H)} {g : ρ' → gx_H → Option (ρ × gx_H)} {ry : Option FieldType} {w : Nat} (As : List Value) (hw : gx_MV own idx y cy ny ry n) (hcl : y.cls = "java/lang/String") (hd : decode cc pc = .ok (.invokevirtual idx, 3)) {st0 : List Value} (hst0 : st0 = As.reverse ++ .retAddr w :: st) (hn : As.length = n) (hst : (st.map fun v => v.category).sum ≤ 8)
    (hrec : ∀ x, f = some x → w < 5) (hM : ∀ r h1, f = some (r, h1) → gx_M E y cy ny ry d mc ms (.retAddr w :: As) h (em' r) h1) (kk : ∀ (r : ρ') (h1 : gx_H), gx_G E own cc nL rt ini (d + 1) bc bs (pc + 3) L ((em' r).toList ++ st) h1 em (g r h1)) : gx_G E own cc nL rt ini (d + 1) (bc + mc) (bs + ms) pc L st0 h em (gx_bd f g) := by
  subst hst0
  unfold gx_bd
  refine gx_bind fun rh hf => ?_
  have hw5 := hrec _ hf
  obtain ⟨r1, h1⟩ := rh
  intro r h' ho p e R s m args below meth c Q F hR H locs cells slots ls hP hS hc hs hL
  have hts := F.2.2.2.2.1
  have hok := F.2.2.2.2.2.1
  have hfr := F.2.2.2.2.2.2.1
  obtain ⟨⟨w1, w2, w3, w4⟩, w5, w6, w7⟩ := hw
  have hrv := vk_recv hok.2.2.2.2.1 hw5 hS
  have hkw : gx_v E (.retAddr w) = .ref (gx_aK E w) := gx_kref (by omega)
  have hMM := hM r1 h1 hf
  unfold gx_M at hMM
  rw [List.map_cons, hkw] at hMM
  rw [← hcl] at hrv
  refine gx_cont (ρ' := ρ') (y := y) (As := As) (v := em' r1) (h1 := h1) (va_runV (As := As.map (gx_v E)) (rest := st.map (gx_v E)) ⟨F.1, F.2.1, F.2.2.1, F.2.2.2.1, hts⟩ hMM ⟨callB_of n hts (gx_good w1) rfl rfl rfl (hts _ w2) (hts _ w5) w3 ⟨hfr.1, by show 8 + (ny + 11) + 64 * d ≤ R.locals; omega⟩, hts _ w6, hts _ w7⟩ ⟨gx_blind, hrv, fun U hU hW => ⟨rfl, gx_upre hok F.2.2.2.2.2.2.2.2 hP hS U hU hW⟩⟩ rfl (by rw [List.length_map]; exact hn) hL.2.1 (by show (As.reverse ++ .retAddr w :: st).map (gx_v E) = _; rw [List.map_append, List.map_reverse, List.map_cons, hkw]) (lv_room (gx_rm F.fm hst)) hd ⟨by omega, by omega⟩) hS (fun H1 locs1 hP1 hS1 => ?_)
  exact kk r1 h1 r h' ho p e R s m args below meth c Q F hR H1 locs1 (cells + mc) (slots + ms) ls hP1 hS1 (by omega) (by omega) hL
end GXK
