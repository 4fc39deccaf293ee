/-! fields, arrays, what is made -/
def gx_fld (h : gx_H) (a ci k : Nat) : Option Value := match h.2 a with
  | .inr x => if x.1 = ci then x.2[k]? else none
  | .inl _ => none
def gx_fI (h : gx_H) (a ci k : Nat) : Option Int32 := match gx_fld h a ci k with
  | some (.int x) => some x
  | _ => none
def gx_fJ (h : gx_H) (a ci k : Nat) : Option Int64 := match gx_fld h a ci k with
  | some (.long x) => some x
  | _ => none
def gx_fR (h : gx_H) (a ci k : Nat) : Option Nat := match gx_fld h a ci k with
  | some (.ref x) => some x
  | _ => none
def gx_pF (h : gx_H) (a ci k : Nat) (v : Value) : Option gx_H := match h.2 a with
  | .inr x => if x.1 = ci ∧ k < x.2.length then some (h.1, va_up h.2 a (.inr (ci, x.2.set k v))) else none
  | .inl _ => none
def gx_isO (h : gx_H) (a ci : Nat) : Option Unit := match h.2 a with
  | .inr x => if x.1 = ci ∧ ci < 10 then some () else none
  | .inl _ => none
def gx_aI (t : Nat) (h : gx_H) (a : Nat) (i : Int32) : Option Int32 := match h.2 a with
  | .inl (t', n, .inl f) => if t' = t ∧ ¬ (i < 0 ∨ n ≤ i.toNatClampNeg) then some (f i.toNatClampNeg) else none
  | _ => none
def gx_sI (t : Nat) (h : gx_H) (a : Nat) (i x : Int32) : Option gx_H := match h.2 a with
  | .inl (t', n, .inl f) => if t' = t ∧ ¬ (i < 0 ∨ n ≤ i.toNatClampNeg) then some (h.1, va_up h.2 a (.inl (t, n, .inl (upd f i.toNatClampNeg x)))) else none
  | _ => none
def gx_aR (t : Nat) (h : gx_H) (a : Nat) (i : Int32) : Option Nat := match h.2 a with
  | .inl (t', n, .inr (.inr (.inr (.inr f)))) => if t' = t ∧ ¬ (i < 0 ∨ n ≤ i.toNatClampNeg) then f i.toNatClampNeg else none
  | _ => none
def gx_sR (t : Nat) (h : gx_H) (a : Nat) (i : Int32) (v : Nat) : Option gx_H := match h.2 a with
  | .inl (t', n, .inr (.inr (.inr (.inr f)))) => if t' = t ∧ ¬ (i < 0 ∨ n ≤ i.toNatClampNeg) then some (h.1, va_up h.2 a (.inl (t, n, .inr (.inr (.inr (.inr (va_up f i.toNatClampNeg (some v)))))))) else none
  | _ => none
def gx_al (h : gx_H) (a : Nat) : Option Int32 := match h.2 a with
  | .inl x => if x.1 < 5 then some (Int32.ofNat x.2.1) else none
  | .inr _ => none
def gx_new (c : gx_C) (h : gx_H) : gx_H := (h.1 + 1, va_up h.2 h.1 c)
/-- the cell's number fits an array of references -/
def gx_isE (h : gx_H) (a ci : Nat) : Prop := ∃ fs, h.2 a = .inr (ci, fs)
theorem gx_isO_of {α : Type} {h : gx_H} {a ci : Nat} {f : Unit → Option α} {x : α} (q : (gx_isO h a ci).bind f = some x) : ci < 10 ∧ ∃ fs, h.2 a = .inr (ci, fs) := by
  obtain ⟨u, hu, -⟩ := Option.bind_eq_some_iff.mp q
  unfold gx_isO at hu
  split at hu
  · rename_i y hy
    split at hu
    · rename_i hc
      obtain ⟨rfl, h2⟩ := hc
      exact ⟨h2, y.2, hy⟩
    · cases hu
  · cases hu
def gx_Fld (own : String) (idx ci k : Nat) : Prop := ∃ (C : String) (T : u_T) (N : Nat), vwCl[ci]? = some (C, T, N) ∧ (∀ w ∈ u_ws C T N, w ∈ gx_tbl) ∧ k < N ∧ Cond.fieldLink own idx (T k).1 (T k).2.1 (T k).2.2.1 ∈ gx_tbl
def gx_FldP (own : String) (idx ci k : Nat) (fin : Bool) (ty : FieldType) : Prop := ∃ (C : String) (T : u_T) (N : Nat), vwCl[ci]? = some (C, T, N) ∧ (∀ w ∈ u_ws C T N, w ∈ gx_tbl) ∧ k < N ∧ Cond.fieldLink own idx (T k).1 (T k).2.1 (T k).2.2.1 ∈ gx_tbl ∧
  (∃ tf : Nat → FieldType, ∀ k, k < N → parseFieldDescriptor (T k).2.2.1 = some (tf k)) ∧ (∀ a, a < N → ∀ b, b < N → a ≠ b → (T a).2.1 ≠ (T b).2.1) ∧ (T k).2.2.2 = fin ∧ parseFieldDescriptor (T k).2.2.1 = some ty ∧ (fin = true → (T k).1 = own)
def gx_Cls (own : String) (idx ci N : Nat) (fs : List Value) : Prop := ∃ (C : String) (T : u_T) (ty : Nat → FieldType), vwCl[ci]? = some (C, T, N) ∧ (∀ w ∈ u_ws C T N, w ∈ gx_tbl) ∧ (∀ k, k < N → parseFieldDescriptor (T k).2.2.1 = some (ty k)) ∧ Cond.classLink own idx C ∈ gx_tbl ∧ Cond.instantiable C N ∈ gx_tbl ∧ Cond.initialized C ∈ gx_tbl ∧ ∀ j, j < N → defaultValue (ty j) = vp_V fs j
theorem gx_fld_of {h : gx_H} {a ci k : Nat} {v : Value} (q : gx_fld h a ci k = some v) : ∃ fs, h.2 a = .inr (ci, fs) ∧ fs[k]? = some v := by
  unfold gx_fld at q
  split at q
  · rename_i y hy
    split at q
    · rename_i hc
      subst hc
      exact ⟨y.2, hy, q⟩
    · cases q
  · cases q
theorem gx_ne_junk {h : gx_H} {a ci k : Nat} {fs : List Value} {v : Value} (h1 : h.2 a = .inr (ci, fs)) (h2 : fs[k]? = some v) : h.2 a ≠ gx_junk := fun q => by
  rw [h1] at q
  cases q
  simp at h2
theorem gx_fI_of {h : gx_H} {a ci k : Nat} {x : Int32} (q : gx_fI h a ci k = some x) : gx_fld h a ci k = some (.int x) := by
  unfold gx_fI at q
  split at q
  · cases q; assumption
  · cases q
theorem gx_fJ_of {h : gx_H} {a ci k : Nat} {x : Int64} (q : gx_fJ h a ci k = some x) : gx_fld h a ci k = some (.long x) := by
  unfold gx_fJ at q
  split at q
  · cases q; assumption
  · cases q
theorem gx_fR_of {h : gx_H} {a ci k : Nat} {x : Nat} (q : gx_fR h a ci k = some x) : gx_fld h a ci k = some (.ref x) := by
  unfold gx_fR at q
  split at q
  · cases q; assumption
  · cases q
section GXH
variable {E : gx_Env} {own : String} {cc : ByteArray} {nL : Nat} {rt : Option FieldType} {ini : Bool} {d bc bs pc : Nat} {L : List (Option Value)} {st : List Value} {h : gx_H} {ρ : Type} {em : ρ → Option Value} {o o1 o2 : Option (ρ × gx_H)}
theorem gx_getV {idx ci k a : Nat} {v : Value} (hF : gx_Fld own idx ci k) (hd : decode cc pc = .ok (.getfield idx, 3)) (hv : gx_fld h a ci k = some v) (kk : gx_G E own cc nL rt ini d bc bs (pc + 3) L (v :: st) h em o) : gx_G E own cc nL rt ini d bc bs pc L (.ref a :: st) h em o := by
  intro r h' ho p e R s m args below meth c Q F hR H locs cells slots ls hP hS hc hs hL
  obtain ⟨C, T, N, f1, f2, f3, f4⟩ := hF
  obtain ⟨fs, g1, g2⟩ := gx_fld_of hv
  have hlt := hP.lt (gx_ne_junk g1 g2)
  refine va_get (Ts := gx_tbl) (ref := (T k).1) F.1 F.2.1 F.2.2.2.2.1 f2 F.2.2.2.1 F.2.2.2.2.2.1.1 (hP.one hlt g1) 0 (ci := ci) (fs := fs.map (gx_v E)) rfl f1 k f3 (F.2.2.2.2.1 _ f4) (fun x hx => hx) (v := gx_v E v) (by rw [List.getElem?_map, g2]; rfl) hd ?_
  exact kk r h' ho p e R s m args below meth c Q F hR H locs cells slots ls hP hS hc hs hL
theorem gx_getI {idx ci k a : Nat} {f : Int32 → Option (ρ × gx_H)} (hF : gx_Fld own idx ci k) (hd : decode cc pc = .ok (.getfield idx, 3)) (kk : ∀ x, gx_G E own cc nL rt ini d bc bs (pc + 3) L (.int x :: st) h em (f x)) : gx_G E own cc nL rt ini d bc bs pc L (.ref a :: st) h em ((gx_fI h a ci k).bind f) := gx_bind fun x hx => gx_getV hF hd (gx_fI_of hx) (kk x)
theorem gx_getJ {idx ci k a : Nat} {f : Int64 → Option (ρ × gx_H)} (hF : gx_Fld own idx ci k) (hd : decode cc pc = .ok (.getfield idx, 3)) (kk : ∀ x, gx_G E own cc nL rt ini d bc bs (pc + 3) L (.long x :: st) h em (f x)) : gx_G E own cc nL rt ini d bc bs pc L (.ref a :: st) h em ((gx_fJ h a ci k).bind f) := gx_bind fun x hx => gx_getV hF hd (gx_fJ_of hx) (kk x)
theorem gx_getR {idx ci k a : Nat} {f : Nat → Option (ρ × gx_H)} (hF : gx_Fld own idx ci k) (hd : decode cc pc = .ok (.getfield idx, 3)) (kk : ∀ x, gx_G E own cc nL rt ini d bc bs (pc + 3) L (.ref x :: st) h em (f x)) : gx_G E own cc nL rt ini d bc bs pc L (.ref a :: st) h em ((gx_fR h a ci k).bind f) := gx_bind fun x hx => gx_getV hF hd (gx_fR_of hx) (kk x)
theorem gx_pF_of {h h1 : gx_H} {a ci k : Nat} {v : Value} (q : gx_pF h a ci k v = some h1) : ∃ fs, h.2 a = .inr (ci, fs) ∧ k < fs.length ∧ h1 = (h.1, va_up h.2 a (.inr (ci, fs.set k v))) := by
  unfold gx_pF at q
  split at q
  · rename_i y hy
    split at q
    · rename_i hc
      obtain ⟨rfl, h2⟩ := hc
      cases q
      exact ⟨y.2, hy, h2, rfl⟩
    · cases q
  · cases q
theorem gx_putV {idx ci k a : Nat} {v : Value} {fin : Bool} {ty : FieldType} {f : gx_H → Option (ρ × gx_H)} (hF : gx_FldP own idx ci k fin ty) (hi : fin = true → ini = true) (hd : decode cc pc = .ok (.putfield idx, 3)) (hn : narrow ty (gx_v E v) = gx_v E v) (hfit : fits ty (gx_v E v) = true)
    (kk : ∀ h1, gx_G E own cc nL rt ini d bc bs (pc + 3) L st h1 em (f h1)) : gx_G E own cc nL rt ini d bc bs pc L (v :: .ref a :: st) h em ((gx_pF h a ci k v).bind f) := by
  refine gx_bind fun h1 hx => ?_
  obtain ⟨fs, g1, g2, rfl⟩ := gx_pF_of hx
  intro r h' ho p e R s m args below meth c Q F hR H locs cells slots ls hP hS hcc hs hL
  obtain ⟨C, T, N, hc, hin, hk, hlink, ⟨tf, hty⟩, hnm, hfin, hpd, hdecl⟩ := hF
  have hlt := hP.lt (gx_ne_junk g1 (List.getElem?_eq_getElem g2))
  have hK := F.2.2.2.2.2.1.1
  have hts := F.2.2.2.2.1
  have hap := va_apart (own := own) hts hin tf hty hnm hK hc
  have hat := hP.2.1 a hlt
  rw [g1] at hat
  obtain ⟨r', h1', cell, q1, q2, q3, q4⟩ := hat
  have hr : r' = (C, T, N) := Option.some.inj (h1'.symm.trans hc)
  subst hr
  obtain ⟨hSl, hfc, kC, hkC, hkind⟩ := hK.1 ci _ hc
  obtain ⟨cf, kf, fi, fd, hfi, hsl⟩ := hSl k hk
  have hlay := hts _ (hin _ (u_in_lay hk))
  unfold u_lay at hlay
  have hst := (u_facts hfc hkC (u_lays hts hin hk) hfi).1
  have fin' : ∀ (H' : Heap), H'[gx_b E + a]? = some (cell.setSlot fd.slot (gx_v E v)) → H'.size = H.size → (∀ q, q ≠ gx_b E + a → H'[q]? = H[q]?) → W p (gx_l E) e R s m args below meth c H' (locs ++ [⟨gx_b E + a, fd.slot⟩]) cells slots Q (F0 m (pc + 3) ls (st.map (gx_v E))) := by
    intro H' e1 e2 e3
    refine kk _ r h' ho p e R s m args below meth c Q F hR H' _ cells slots ls (hP.set hlt e2 e3 ⟨_, hc, ?_⟩) (hS.put e2 e3 (Nat.le_add_right _ _)) hcc hs hL
    rw [hsl] at e1
    show t_OB _ _ _ _ H' (vp_V ((fs.set k v).map (gx_v E)))
    rw [List.map_set]
    exact t_OB.to (V := updV (vp_V (fs.map (gx_v E))) k (gx_v E v)) ⟨_, e1, q2, q3, t_set q4 hap hk _⟩ (fun j _ => vp_updV_set (by rw [List.length_map]; exact g2) _ j)
  cases fin with
  | false =>
    rw [if_neg (by rw [hfin]; decide)] at hlay
    have h6 := u_store hfc hkC hkind hlay hfi hpd hn hfit
    exact W.putK F.1 F.2.1 (f := fd) ⟨F.2.2.2.1, hts _ hlink, ⟨_, _, _, hfi⟩, hst⟩ (by rw [q2]; exact h6) q1 q3 (by rw [hsl]; exact k2_hasslot (q4 k hk)) rfl rfl hd fin'
  | true =>
    rw [if_pos hfin] at hlay
    have hcf : m.cls = cf := by
      obtain ⟨_, _, c', _, _, _, -, -, hf', -, -, -, hown2, -⟩ := Cond.laysFinal_spec hlay
      have e1 : c' = cf := by have := hfi.symm.trans hf'; simp at this; exact this.1.symm
      rw [hdecl rfl] at hown2
      rw [← e1]; exact Option.some.inj (F.2.2.2.1.symm.trans hown2)
    have h6 := u_fits hfc hkC hkind (Or.inr hlay) hfi hpd hn hfit
    exact W.putFinK F.1 F.2.1 F.2.2.2.1 (hts _ hlink) hfi hst hcf (F.2.2.2.2.2.2.2.1 (hi rfl)) (by rw [q2]; exact h6) q1 q3 (by rw [hsl]; exact k2_hasslot (q4 k hk)) rfl rfl hd fin'
theorem gx_putI {idx ci k a : Nat} {x : Int32} {fin : Bool} {f : gx_H → Option (ρ × gx_H)} (hF : gx_FldP own idx ci k fin .int) (hi : fin = true → ini = true) (hd : decode cc pc = .ok (.putfield idx, 3)) (kk : ∀ h1, gx_G E own cc nL rt ini d bc bs (pc + 3) L st h1 em (f h1)) : gx_G E own cc nL rt ini d bc bs pc L (.int x :: .ref a :: st) h em ((gx_pF h a ci k (.int x)).bind f) := gx_putV hF hi hd rfl rfl kk
theorem gx_putJ {idx ci k a : Nat} {x : Int64} {fin : Bool} {f : gx_H → Option (ρ × gx_H)} (hF : gx_FldP own idx ci k fin .long) (hi : fin = true → ini = true) (hd : decode cc pc = .ok (.putfield idx, 3)) (kk : ∀ h1, gx_G E own cc nL rt ini d bc bs (pc + 3) L st h1 em (f h1)) : gx_G E own cc nL rt ini d bc bs pc L (.long x :: .ref a :: st) h em ((gx_pF h a ci k (.long x)).bind f) := gx_putV hF hi hd rfl rfl kk
theorem gx_putO {idx ci k a x : Nat} {fin : Bool} {C : String} {f : gx_H → Option (ρ × gx_H)} (hF : gx_FldP own idx ci k fin (.object C)) (hi : fin = true → ini = true) (hd : decode cc pc = .ok (.putfield idx, 3)) (kk : ∀ h1, gx_G E own cc nL rt ini d bc bs (pc + 3) L st h1 em (f h1)) : gx_G E own cc nL rt ini d bc bs pc L (.ref x :: .ref a :: st) h em ((gx_pF h a ci k (.ref x)).bind f) := gx_putV hF hi hd rfl rfl kk
theorem gx_putA {idx ci k a x : Nat} {fin : Bool} {C : FieldType} {f : gx_H → Option (ρ × gx_H)} (hF : gx_FldP own idx ci k fin (.array C)) (hi : fin = true → ini = true) (hd : decode cc pc = .ok (.putfield idx, 3)) (kk : ∀ h1, gx_G E own cc nL rt ini d bc bs (pc + 3) L st h1 em (f h1)) : gx_G E own cc nL rt ini d bc bs pc L (.ref x :: .ref a :: st) h em ((gx_pF h a ci k (.ref x)).bind f) := gx_putV hF hi hd rfl rfl kk
end GXH
