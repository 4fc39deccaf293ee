section GXA
variable {E : gx_Env} {own : String} {cc : ByteArray} {nL : Nat} {rt : Option FieldType} {ini : Bool} {d bc bs pc : Nat} {L : List (Option Value)} {st : List Value} {h : gx_H} {ρ : Type} {em : ρ → Option Value} {o o1 o2 : Option (ρ × gx_H)}
theorem gx_aI_of {t : Nat} {h : gx_H} {a : Nat} {i x : Int32} (q : gx_aI t h a i = some x) : ∃ (n : Nat) (f : Nat → Int32), h.2 a = .inl (t, n, .inl f) ∧ vp_in i n ∧ x = f i.toNatClampNeg := by
  unfold gx_aI at q
  split at q
  · rename_i t' n f hy
    split at q
    · rename_i hc
      obtain ⟨rfl, h2⟩ := hc
      cases q
      exact ⟨n, f, hy, h2, rfl⟩
    · cases q
  · cases q
theorem gx_sI_of {t : Nat} {h h1 : gx_H} {a : Nat} {i x : Int32} (q : gx_sI t h a i x = some h1) : ∃ (n : Nat) (f : Nat → Int32), h.2 a = .inl (t, n, .inl f) ∧ vp_in i n ∧ h1 = (h.1, va_up h.2 a (.inl (t, n, .inl (upd f i.toNatClampNeg x)))) := by
  unfold gx_sI at q
  split at q
  · rename_i t' n f hy
    split at q
    · rename_i hc
      obtain ⟨rfl, h2⟩ := hc
      cases q
      exact ⟨n, f, hy, h2, rfl⟩
    · cases q
  · cases q
theorem gx_aR_of {t : Nat} {h : gx_H} {a : Nat} {i : Int32} {x : Nat} (q : gx_aR t h a i = some x) : ∃ (n : Nat) (f : Nat → Option Nat), h.2 a = .inl (t, n, .inr (.inr (.inr (.inr f)))) ∧ vp_in i n ∧ f i.toNatClampNeg = some x := by
  unfold gx_aR at q
  split at q
  · rename_i t' n f hy
    split at q
    · rename_i hc
      obtain ⟨rfl, h2⟩ := hc
      exact ⟨n, f, hy, h2, q⟩
    · cases q
  · cases q
theorem gx_sR_of {t : Nat} {h h1 : gx_H} {a v : Nat} {i : Int32} (q : gx_sR t h a i v = some h1) : ∃ (n : Nat) (f : Nat → Option Nat), h.2 a = .inl (t, n, .inr (.inr (.inr (.inr f)))) ∧ vp_in i n ∧ h1 = (h.1, va_up h.2 a (.inl (t, n, .inr (.inr (.inr (.inr (va_up f i.toNatClampNeg (some v)))))))) := by
  unfold gx_sR at q
  split at q
  · rename_i t' n f hy
    split at q
    · rename_i hc
      obtain ⟨rfl, h2⟩ := hc
      cases q
      exact ⟨n, f, hy, h2, rfl⟩
    · cases q
  · cases q
theorem gx_nj {h : gx_H} {a : Nat} {x : Nat × vp_A} (h1 : h.2 a = .inl x) : h.2 a ≠ gx_junk := fun q => by
  rw [h1] at q
  cases q
theorem gx_iald {a : Nat} {i : Int32} {f : Int32 → Option (ρ × gx_H)} (hd : decode cc pc = .ok (.iaload, 1)) (kk : ∀ x, gx_G E own cc nL rt ini d bc bs (pc + 1) L (.int x :: st) h em (f x)) : gx_G E own cc nL rt ini d bc bs pc L (.int i :: .ref a :: st) h em ((gx_aI 0 h a i).bind f) := by
  refine gx_bind fun x hx => ?_
  obtain ⟨n, g, g1, g2, rfl⟩ := gx_aI_of hx
  intro r h' ho p e R s m args below meth c Q F hR H locs cells slots ls hP hS hc hs hL
  exact va_iald F.1 F.2.1 F.2.2.2.2.2.1.1 (hP.one (hP.lt (gx_nj g1)) g1) 0 0 rfl rfl g2 hd (kk _ r h' ho p e R s m args below meth c Q F hR H locs cells slots ls hP hS hc hs hL)
theorem gx_bald {a : Nat} {i : Int32} {f : Int32 → Option (ρ × gx_H)} (hd : decode cc pc = .ok (.baload, 1)) (kk : ∀ x, gx_G E own cc nL rt ini d bc bs (pc + 1) L (.int x :: st) h em (f x)) : gx_G E own cc nL rt ini d bc bs pc L (.int i :: .ref a :: st) h em ((gx_aI 1 h a i).bind f) := by
  refine gx_bind fun x hx => ?_
  obtain ⟨n, g, g1, g2, rfl⟩ := gx_aI_of hx
  intro r h' ho p e R s m args below meth c Q F hR H locs cells slots ls hP hS hc hs hL
  exact va_bald F.1 F.2.1 F.2.2.2.2.2.1.1 (hP.one (hP.lt (gx_nj g1)) g1) 0 1 rfl rfl g2 hd (kk _ r h' ho p e R s m args below meth c Q F hR H locs cells slots ls hP hS hc hs hL)
theorem gx_zald {a : Nat} {i : Int32} {f : Int32 → Option (ρ × gx_H)} (hd : decode cc pc = .ok (.baload, 1)) (kk : ∀ x, gx_G E own cc nL rt ini d bc bs (pc + 1) L (.int x :: st) h em (f x)) : gx_G E own cc nL rt ini d bc bs pc L (.int i :: .ref a :: st) h em ((gx_aI 2 h a i).bind f) := by
  refine gx_bind fun x hx => ?_
  obtain ⟨n, g, g1, g2, rfl⟩ := gx_aI_of hx
  intro r h' ho p e R s m args below meth c Q F hR H locs cells slots ls hP hS hc hs hL
  exact va_zald F.1 F.2.1 F.2.2.2.2.2.1.1 (hP.one (hP.lt (gx_nj g1)) g1) 0 2 rfl rfl g2 hd (kk _ r h' ho p e R s m args below meth c Q F hR H locs cells slots ls hP hS hc hs hL)
theorem gx_iast {a : Nat} {i x : Int32} {f : gx_H → Option (ρ × gx_H)} (hd : decode cc pc = .ok (.iastore, 1)) (kk : ∀ h1, gx_G E own cc nL rt ini d bc bs (pc + 1) L st h1 em (f h1)) : gx_G E own cc nL rt ini d bc bs pc L (.int x :: .int i :: .ref a :: st) h em ((gx_sI 0 h a i x).bind f) := by
  refine gx_bind fun h1 hx => ?_
  obtain ⟨n, g, g1, g2, rfl⟩ := gx_sI_of hx
  intro r h' ho p e R s m args below meth c Q F hR H locs cells slots ls hP hS hc hs hL
  have hlt := hP.lt (gx_nj g1)
  have hcell : H[gx_b E + a]? = some (vp_cell (gx_cT E 0) (n, .inl g)) := by
    have := hP.2.1 a hlt
    rw [g1] at this
    exact this
  refine W.iast F.1 F.2.1 hcell ((F.2.2.2.2.2.1.1.2 0 _ rfl).1 n (fun j => .int (g j))) (fun q => by cases q) (by show ¬ (i < 0 ∨ (arrV _ _ _).slots.size ≤ _); rw [arrV_size]; exact g2) rfl rfl hd fun H1 e1 z oq => ?_
  refine kk _ r h' ho p e R s m args below meth c Q F hR H1 _ cells slots ls (hP.set hlt z oq ?_) (hS.put z oq (Nat.le_add_right _ _)) hc hs hL
  show H1[gx_b E + a]? = some (vp_cell (gx_cT E 0) (n, .inl (upd g i.toNatClampNeg x)))
  rw [e1]
  rw [vp_cell_i, vp_cell_i, arrV_store]
  congr 2
  funext q
  by_cases hq : q = i.toNatClampNeg
  · subst hq
    simp [updV, upd]
  · simp [updV, upd, hq]
theorem gx_bast {a : Nat} {i x : Int32} {f : gx_H → Option (ρ × gx_H)} (hd : decode cc pc = .ok (.bastore, 1)) (kk : ∀ h1, gx_G E own cc nL rt ini d bc bs (pc + 1) L st h1 em (f h1)) : gx_G E own cc nL rt ini d bc bs pc L (.int x :: .int i :: .ref a :: st) h em ((gx_sI 1 h a i (vp_nar .byte x)).bind f) := by
  refine gx_bind fun h1 hx => ?_
  obtain ⟨n, g, g1, g2, rfl⟩ := gx_sI_of hx
  intro r h' ho p e R s m args below meth c Q F hR H locs cells slots ls hP hS hc hs hL
  have hlt := hP.lt (gx_nj g1)
  have hcell : H[gx_b E + a]? = some (vp_cell (gx_cT E 1) (n, .inl g)) := by
    have := hP.2.1 a hlt
    rw [g1] at this
    exact this
  refine W.bast F.1 F.2.1 hcell ((F.2.2.2.2.2.1.1.2 1 _ rfl).1 n (fun j => .int (g j))) (fun q => by cases q) (by show ¬ (i < 0 ∨ (arrV _ _ _).slots.size ≤ _); rw [arrV_size]; exact g2) rfl rfl hd fun H1 e1 z oq => ?_
  refine kk _ r h' ho p e R s m args below meth c Q F hR H1 _ cells slots ls (hP.set hlt z oq ?_) (hS.put z oq (Nat.le_add_right _ _)) hc hs hL
  show H1[gx_b E + a]? = some (vp_cell (gx_cT E 1) (n, .inl (upd g i.toNatClampNeg (vp_nar .byte x))))
  rw [e1]
  rw [vp_cell_i, vp_cell_i, arrV_store]
  congr 2
  funext q
  by_cases hq : q = i.toNatClampNeg
  · subst hq
    simp [updV, upd, vp_nar]
    try rfl
  · simp [updV, upd, hq]
theorem gx_zast {a : Nat} {i x : Int32} {f : gx_H → Option (ρ × gx_H)} (hd : decode cc pc = .ok (.bastore, 1)) (kk : ∀ h1, gx_G E own cc nL rt ini d bc bs (pc + 1) L st h1 em (f h1)) : gx_G E own cc nL rt ini d bc bs pc L (.int x :: .int i :: .ref a :: st) h em ((gx_sI 2 h a i (vp_nar .boolean x)).bind f) := by
  refine gx_bind fun h1 hx => ?_
  obtain ⟨n, g, g1, g2, rfl⟩ := gx_sI_of hx
  intro r h' ho p e R s m args below meth c Q F hR H locs cells slots ls hP hS hc hs hL
  have hlt := hP.lt (gx_nj g1)
  have hcell : H[gx_b E + a]? = some (vp_cell (gx_cT E 2) (n, .inl g)) := by
    have := hP.2.1 a hlt
    rw [g1] at this
    exact this
  refine W.zast F.1 F.2.1 hcell ((F.2.2.2.2.2.1.1.2 2 _ rfl).1 n (fun j => .int (g j))) (fun q => by cases q) (by show ¬ (i < 0 ∨ (arrV _ _ _).slots.size ≤ _); rw [arrV_size]; exact g2) rfl rfl hd fun H1 e1 z oq => ?_
  refine kk _ r h' ho p e R s m args below meth c Q F hR H1 _ cells slots ls (hP.set hlt z oq ?_) (hS.put z oq (Nat.le_add_right _ _)) hc hs hL
  show H1[gx_b E + a]? = some (vp_cell (gx_cT E 2) (n, .inl (upd g i.toNatClampNeg (vp_nar .boolean x))))
  rw [e1]
  rw [vp_cell_i, vp_cell_i, arrV_store]
  congr 2
  funext q
  by_cases hq : q = i.toNatClampNeg
  · subst hq
    simp [updV, upd, vp_nar]
    try rfl
  · simp [updV, upd, hq]
theorem gx_aald3 {a : Nat} {i : Int32} {f : Nat → Option (ρ × gx_H)} (hd : decode cc pc = .ok (.aaload, 1)) (kk : ∀ x, gx_G E own cc nL rt ini d bc bs (pc + 1) L (.ref x :: st) h em (f x)) : gx_G E own cc nL rt ini d bc bs pc L (.int i :: .ref a :: st) h em ((gx_aR 3 h a i).bind f) := by
  refine gx_bind fun x hx => ?_
  obtain ⟨n, g, g1, g2, g3⟩ := gx_aR_of hx
  intro r h' ho p e R s m args below meth c Q F hR H locs cells slots ls hP hS hc hs hL
  refine va_aldq (C := RX8) F.1 F.2.1 F.2.2.2.2.2.1.1 (hP.one (hP.lt (gx_nj g1)) g1) 0 3 rfl rfl g2 hd ?_
  rw [g3]
  exact kk x r h' ho p e R s m args below meth c Q F hR H locs cells slots ls hP hS hc hs hL
theorem gx_aast3 {a v : Nat} {i : Int32} {f : gx_H → Option (ρ × gx_H)} (hd : decode cc pc = .ok (.aastore, 1)) (kk : ∀ h1, gx_G E own cc nL rt ini d bc bs (pc + 1) L st h1 em (f h1)) : gx_G E own cc nL rt ini d bc bs pc L (.ref v :: .int i :: .ref a :: st) h em ((gx_isO h v 6).bind fun _ => (gx_sR 3 h a i v).bind f) := by
  intro r h' ho
  obtain ⟨-, fs, hv⟩ := gx_isO_of ho
  obtain ⟨u, -, ho⟩ := Option.bind_eq_some_iff.mp ho
  obtain ⟨h1, hx, ho⟩ := Option.bind_eq_some_iff.mp ho
  obtain ⟨n, g, g1, g2, rfl⟩ := gx_sR_of hx
  intro p e R s m args below meth c Q F hR H locs cells slots ls hP hS hc hs hL
  have hlt := hP.lt (gx_nj g1)
  have hvlt : v < h.1 := hP.lt (fun q => by rw [hv] at q; cases q)
  have hlt2 : i.toNatClampNeg < n := Nat.not_le.mp fun q => g2 (Or.inr q)
  have h0 : ¬ i < 0 := fun q => g2 (Or.inl q)
  have hcell : H[gx_b E + a]? = some (vp_cell (gx_cT E 3) (n, gx_ar (gx_b E) (.inr (.inr (.inr (.inr g)))))) := by
    have := hP.2.1 a hlt
    rw [g1] at this
    exact this
  have hat := hP.2.1 v hvlt
  rw [hv] at hat
  obtain ⟨r', hr', cellV, c1, c2, c3, -⟩ := hat
  have hK := F.2.2.2.2.2.1.1
  have hcls := (hK.1 6 _ rfl).2
  obtain ⟨kA, comp, k1, k2, k3, -⟩ := (hK.2 3 _ rfl).2
  have hcomp : comp = (gx_D E).1 6 := Option.some.inj (k3.symm.trans hcls.1)
  subst hcomp
  obtain ⟨kC, hkC, -⟩ := hcls.2
  refine W.aast F.1 F.2.1 hcell (fun q h => by cases h) (fun h => by cases h) k1 k2 rfl hkC ⟨h0, by show _ < (arrV _ _ _).slots.size; rw [arrV_size]; exact hlt2⟩ c1 (fun q h => by rw [c3] at h; cases h) (by rw [c2]; exact hkC) (by rw [c2]; exact va_assign hcls) rfl rfl hd fun H1 e1 z oq => ?_
  refine kk _ r h' ho p e R s m args below meth c Q F hR H1 _ cells slots ls (hP.set hlt z oq ?_) (hS.put z oq (Nat.le_add_right _ _)) hc hs hL
  show H1[gx_b E + a]? = some (vp_cell (gx_cT E 3) (n, .inr (.inr (.inr (.inr (fun j => (va_up g i.toNatClampNeg (some v) j).map (fun k => gx_b E + k)))))))
  rw [e1]
  show some ((vp_cell (gx_cT E 3) (n, .inr (.inr (.inr (.inr (fun j => (g j).map (fun k => gx_b E + k))))))).setSlot _ _) = _
  rw [vp_cell_q, vp_cell_q, arrV_store]
  congr 2
  funext q
  by_cases hq : q = i.toNatClampNeg
  · subst hq
    simp [updV, va_up, va_rf]
  · simp [updV, va_up, hq]
theorem gx_aald4 {a : Nat} {i : Int32} {f : Nat → Option (ρ × gx_H)} (hd : decode cc pc = .ok (.aaload, 1)) (kk : ∀ x, gx_G E own cc nL rt ini d bc bs (pc + 1) L (.ref x :: st) h em (f x)) : gx_G E own cc nL rt ini d bc bs pc L (.int i :: .ref a :: st) h em ((gx_aR 4 h a i).bind f) := by
  refine gx_bind fun x hx => ?_
  obtain ⟨n, g, g1, g2, g3⟩ := gx_aR_of hx
  intro r h' ho p e R s m args below meth c Q F hR H locs cells slots ls hP hS hc hs hL
  refine va_aldq (C := RX1) F.1 F.2.1 F.2.2.2.2.2.1.1 (hP.one (hP.lt (gx_nj g1)) g1) 0 4 rfl rfl g2 hd ?_
  rw [g3]
  exact kk x r h' ho p e R s m args below meth c Q F hR H locs cells slots ls hP hS hc hs hL
theorem gx_aast4 {a v : Nat} {i : Int32} {f : gx_H → Option (ρ × gx_H)} (hd : decode cc pc = .ok (.aastore, 1)) (kk : ∀ h1, gx_G E own cc nL rt ini d bc bs (pc + 1) L st h1 em (f h1)) : gx_G E own cc nL rt ini d bc bs pc L (.ref v :: .int i :: .ref a :: st) h em ((gx_isO h v 1).bind fun _ => (gx_sR 4 h a i v).bind f) := by
  intro r h' ho
  obtain ⟨-, fs, hv⟩ := gx_isO_of ho
  obtain ⟨u, -, ho⟩ := Option.bind_eq_some_iff.mp ho
  obtain ⟨h1, hx, ho⟩ := Option.bind_eq_some_iff.mp ho
  obtain ⟨n, g, g1, g2, rfl⟩ := gx_sR_of hx
  intro p e R s m args below meth c Q F hR H locs cells slots ls hP hS hc hs hL
  have hlt := hP.lt (gx_nj g1)
  have hvlt : v < h.1 := hP.lt (fun q => by rw [hv] at q; cases q)
  have hlt2 : i.toNatClampNeg < n := Nat.not_le.mp fun q => g2 (Or.inr q)
  have h0 : ¬ i < 0 := fun q => g2 (Or.inl q)
  have hcell : H[gx_b E + a]? = some (vp_cell (gx_cT E 4) (n, gx_ar (gx_b E) (.inr (.inr (.inr (.inr g)))))) := by
    have := hP.2.1 a hlt
    rw [g1] at this
    exact this
  have hat := hP.2.1 v hvlt
  rw [hv] at hat
  obtain ⟨r', hr', cellV, c1, c2, c3, -⟩ := hat
  have hK := F.2.2.2.2.2.1.1
  have hcls := (hK.1 1 _ rfl).2
  obtain ⟨kA, comp, k1, k2, k3, -⟩ := (hK.2 4 _ rfl).2
  have hcomp : comp = (gx_D E).1 1 := Option.some.inj (k3.symm.trans hcls.1)
  subst hcomp
  obtain ⟨kC, hkC, -⟩ := hcls.2
  refine W.aast F.1 F.2.1 hcell (fun q h => by cases h) (fun h => by cases h) k1 k2 rfl hkC ⟨h0, by show _ < (arrV _ _ _).slots.size; rw [arrV_size]; exact hlt2⟩ c1 (fun q h => by rw [c3] at h; cases h) (by rw [c2]; exact hkC) (by rw [c2]; exact va_assign hcls) rfl rfl hd fun H1 e1 z oq => ?_
  refine kk _ r h' ho p e R s m args below meth c Q F hR H1 _ cells slots ls (hP.set hlt z oq ?_) (hS.put z oq (Nat.le_add_right _ _)) hc hs hL
  show H1[gx_b E + a]? = some (vp_cell (gx_cT E 4) (n, .inr (.inr (.inr (.inr (fun j => (va_up g i.toNatClampNeg (some v) j).map (fun k => gx_b E + k)))))))
  rw [e1]
  show some ((vp_cell (gx_cT E 4) (n, .inr (.inr (.inr (.inr (fun j => (g j).map (fun k => gx_b E + k))))))).setSlot _ _) = _
  rw [vp_cell_q, vp_cell_q, arrV_store]
  congr 2
  funext q
  by_cases hq : q = i.toNatClampNeg
  · subst hq
    simp [updV, va_up, va_rf]
  · simp [updV, va_up, hq]
theorem gx_alen {a : Nat} {f : Int32 → Option (ρ × gx_H)} (hd : decode cc pc = .ok (.arraylength, 1)) (kk : ∀ x, gx_G E own cc nL rt ini d bc bs (pc + 1) L (.int x :: st) h em (f x)) : gx_G E own cc nL rt ini d bc bs pc L (.ref a :: st) h em ((gx_al h a).bind f) := by
  refine gx_bind fun x hx => ?_
  unfold gx_al at hx
  split at hx
  · rename_i y g1
    split at hx
    · rename_i hlt5
      cases hx
      intro r h' ho p e R s m args below meth c Q F hR H locs cells slots ls hP hS hc hs hL
      obtain ⟨ty, hty⟩ : ∃ ty, (gx_tys E)[y.1]? = some (gx_cT E y.1, ty) := by
        rcases (show y.1 = 0 ∨ y.1 = 1 ∨ y.1 = 2 ∨ y.1 = 3 ∨ y.1 = 4 by omega) with e | e | e | e | e <;> rw [e] <;> exact ⟨_, rfl⟩
      exact va_alen F.1 F.2.1 F.2.2.2.2.2.1.1 (hP.one (hP.lt (gx_nj g1)) g1) 0 y.1 rfl hty rfl hd (kk _ r h' ho p e R s m args below meth c Q F hR H locs cells slots ls hP hS hc hs hL)
    · cases hx
  · cases hx
theorem gx_newO {idx ci N : Nat} {fs : List Value} (hC : gx_Cls own idx ci N fs) (hv : fs.map (gx_v E) = fs) (hd : decode cc pc = .ok (.new idx, 3)) (kk : gx_G E own cc nL rt ini d bc bs (pc + 3) L (.ref h.1 :: st) (gx_new (.inr (ci, fs)) h) em o) : gx_G E own cc nL rt ini d (bc + 1) (bs + N) pc L st h em o := by
  intro r h' ho p e R s m args below meth c Q F hR H locs cells slots ls hP hS hc hs hL
  obtain ⟨C, T, ty, c1, c2, c3, c4, c5, c6, c7⟩ := hC
  have hts := F.2.2.2.2.1
  have hKn := F.2.2.2.2.2.1.1.1 ci _ c1
  refine W.newcK F.1 F.2.1 F.2.2.2.1 (hts _ c4) (hts _ c5) (hts _ c6) rfl hd (by omega) (by omega) hKn.2.1 hP.1 fun H1 kC hkC e1 z1 o1 => ?_
  have hz : H1.size = H.size + 1 := by rw [z1, hP.1]
  have ho1 : ∀ q, q < H.size → H1[q]? = H[q]? := fun q hq => o1 q (by rw [← hP.1]; exact hq)
  refine kk r h' ho p e R s m args below meth c Q F hR H1 locs (cells + 1) (slots + N) ls (hP.push hz ho1 ⟨_, c1, ?_⟩) ⟨Nat.le_trans hS.1 (by omega), fun x h1 h2 => (ho1 x (Nat.lt_of_lt_of_le h1 hS.1)).trans (hS.2.1 x h1 h2), hS.2.2⟩ (by omega) (by omega) hL
  show t_OB H.size _ _ _ H1 (vp_V (fs.map (gx_v E)))
  rw [hv]
  rw [← hP.1] at e1
  exact (u_born ty hts c2 hKn hkC e1 c3).to c7
theorem gx_newA0 {n : Int32} (N : Nat) (hw : Cond.arrayClass .int ∈ gx_tbl) (hd : decode cc pc = .ok (.newarray .int, 2)) (hn : ¬ n < 0) (hN : n.toNatClampNeg = N) (hb : N ≤ 10000) (kk : gx_G E own cc nL rt ini d bc bs (pc + 2) L (.ref h.1 :: st) (gx_new (.inl (0, N, .inl (fun _ => 0))) h) em o) : gx_G E own cc nL rt ini d (bc + 1) (bs + N) pc L (.int n :: st) h em o := by
  intro r h' ho p e R s m args below meth c Q F hR H locs cells slots ls hP hS hc hs hL
  have hb' : N * componentBytes .int ≤ 536870912 := by
    have : componentBytes .int ≤ 4 := by decide
    calc N * componentBytes .int ≤ 10000 * 4 := Nat.mul_le_mul hb this
      _ ≤ 536870912 := by decide
  refine va_newaK (atype := .int) F.1 F.2.1 (F.2.2.2.2.1 _ hw) rfl hd rfl hn hN hb' (by omega) (by omega) hP.1 fun H1 cA e1 z1 o1 hAr hNm => ?_
  have hz : H1.size = H.size + 1 := by rw [z1, hP.1]
  have ho1 : ∀ q, q < H.size → H1[q]? = H[q]? := fun q hq => o1 q (by rw [← hP.1]; exact hq)
  have hcA : cA = gx_cT E 0 := Option.some.inj (hNm.symm.trans (F.2.2.2.2.2.1.1.2 0 _ rfl).2)
  subst hcA
  refine kk r h' ho p e R s m args below meth c Q F hR H1 locs (cells + 1) (slots + N) ls (hP.push hz ho1 ?_) ⟨Nat.le_trans hS.1 (by omega), fun x h1 h2 => (ho1 x (Nat.lt_of_lt_of_le h1 hS.1)).trans (hS.2.1 x h1 h2), hS.2.2⟩ (by omega) (by omega) hL
  show H1[H.size]? = some (vp_cell (gx_cT E 0) (N, .inl (fun _ => 0)))
  rw [hP.1, e1]
  rfl
theorem gx_newA1 {n : Int32} (N : Nat) (hw : Cond.arrayClass .byte ∈ gx_tbl) (hd : decode cc pc = .ok (.newarray .byte, 2)) (hn : ¬ n < 0) (hN : n.toNatClampNeg = N) (hb : N ≤ 10000) (kk : gx_G E own cc nL rt ini d bc bs (pc + 2) L (.ref h.1 :: st) (gx_new (.inl (1, N, .inl (fun _ => 0))) h) em o) : gx_G E own cc nL rt ini d (bc + 1) (bs + N) pc L (.int n :: st) h em o := by
  intro r h' ho p e R s m args below meth c Q F hR H locs cells slots ls hP hS hc hs hL
  have hb' : N * componentBytes .byte ≤ 536870912 := by
    have : componentBytes .byte ≤ 4 := by decide
    calc N * componentBytes .byte ≤ 10000 * 4 := Nat.mul_le_mul hb this
      _ ≤ 536870912 := by decide
  refine va_newaK (atype := .byte) F.1 F.2.1 (F.2.2.2.2.1 _ hw) rfl hd rfl hn hN hb' (by omega) (by omega) hP.1 fun H1 cA e1 z1 o1 hAr hNm => ?_
  have hz : H1.size = H.size + 1 := by rw [z1, hP.1]
  have ho1 : ∀ q, q < H.size → H1[q]? = H[q]? := fun q hq => o1 q (by rw [← hP.1]; exact hq)
  have hcA : cA = gx_cT E 1 := Option.some.inj (hNm.symm.trans (F.2.2.2.2.2.1.1.2 1 _ rfl).2)
  subst hcA
  refine kk r h' ho p e R s m args below meth c Q F hR H1 locs (cells + 1) (slots + N) ls (hP.push hz ho1 ?_) ⟨Nat.le_trans hS.1 (by omega), fun x h1 h2 => (ho1 x (Nat.lt_of_lt_of_le h1 hS.1)).trans (hS.2.1 x h1 h2), hS.2.2⟩ (by omega) (by omega) hL
  show H1[H.size]? = some (vp_cell (gx_cT E 1) (N, .inl (fun _ => 0)))
  rw [hP.1, e1]
  rfl
theorem gx_newA2 {n : Int32} (N : Nat) (hw : Cond.arrayClass .boolean ∈ gx_tbl) (hd : decode cc pc = .ok (.newarray .boolean, 2)) (hn : ¬ n < 0) (hN : n.toNatClampNeg = N) (hb : N ≤ 10000) (kk : gx_G E own cc nL rt ini d bc bs (pc + 2) L (.ref h.1 :: st) (gx_new (.inl (2, N, .inl (fun _ => 0))) h) em o) : gx_G E own cc nL rt ini d (bc + 1) (bs + N) pc L (.int n :: st) h em o := by
  intro r h' ho p e R s m args below meth c Q F hR H locs cells slots ls hP hS hc hs hL
  have hb' : N * componentBytes .boolean ≤ 536870912 := by
    have : componentBytes .boolean ≤ 4 := by decide
    calc N * componentBytes .boolean ≤ 10000 * 4 := Nat.mul_le_mul hb this
      _ ≤ 536870912 := by decide
  refine va_newaK (atype := .boolean) F.1 F.2.1 (F.2.2.2.2.1 _ hw) rfl hd rfl hn hN hb' (by omega) (by omega) hP.1 fun H1 cA e1 z1 o1 hAr hNm => ?_
  have hz : H1.size = H.size + 1 := by rw [z1, hP.1]
  have ho1 : ∀ q, q < H.size → H1[q]? = H[q]? := fun q hq => o1 q (by rw [← hP.1]; exact hq)
  have hcA : cA = gx_cT E 2 := Option.some.inj (hNm.symm.trans (F.2.2.2.2.2.1.1.2 2 _ rfl).2)
  subst hcA
  refine kk r h' ho p e R s m args below meth c Q F hR H1 locs (cells + 1) (slots + N) ls (hP.push hz ho1 ?_) ⟨Nat.le_trans hS.1 (by omega), fun x h1 h2 => (ho1 x (Nat.lt_of_lt_of_le h1 hS.1)).trans (hS.2.1 x h1 h2), hS.2.2⟩ (by omega) (by omega) hL
  show H1[H.size]? = some (vp_cell (gx_cT E 2) (N, .inl (fun _ => 0)))
  rw [hP.1, e1]
  rfl
theorem gx_newR3 {idx : Nat} {n : Int32} {f : gx_H → Option (ρ × gx_H)} (B : Nat) (hw : Cond.classLink own idx RX8 ∈ gx_tbl) (hd : decode cc pc = .ok (.anewarray idx, 3)) (hB : B ≤ 1000) (kk : gx_G E own cc nL rt ini d bc bs (pc + 3) L (.ref h.1 :: st) (gx_new (.inl (3, n.toNatClampNeg, .inr (.inr (.inr (.inr (fun _ => none)))))) h) em o) : gx_G E own cc nL rt ini d (bc + 1) (bs + B) pc L (.int n :: st) h em (if n < 0 ∨ B < n.toNatClampNeg then none else o) := by
  intro r h' ho
  split at ho
  · cases ho
  rename_i hnb
  have hn : ¬ n < 0 := fun q => hnb (Or.inl q)
  have hnB : n.toNatClampNeg ≤ B := Nat.not_lt.mp fun q => hnb (Or.inr q)
  intro p e R s m args below meth c Q F hR H locs cells slots ls hP hS hc hs hL
  refine W.anew F.1 F.2.1 F.2.2.2.1 (F.2.2.2.2.1 _ hw) (va_AO.use F.2.2.2.2.2.1.2.2.1) rfl hd rfl hn (by omega) (by omega) (by omega) fun cA kA comp f1 f2 f3 f4 => ?_
  generalize hH1 : H.push ({ cls := cA, slots := Array.replicate n.toNatClampNeg .null, vm := .none } : Cell) = H1
  have hz : H1.size = H.size + 1 := by rw [← hH1, Array.size_push]
  have e1 : H1[H.size]? = some (arrV cA n.toNatClampNeg (fun _ => .null)) := by rw [← hH1, Array.getElem?_push_size, ← arrV_new]
  have ho1 : ∀ q, q < H.size → H1[q]? = H[q]? := fun q hq => by rw [← hH1, Array.getElem?_push, if_neg (Nat.ne_of_lt hq)]
  obtain ⟨kA', comp', k1, k2, k3, k4⟩ := (F.2.2.2.2.2.1.1.2 3 _ rfl).2
  have hcA : cA = gx_cT E 3 := Option.some.inj (f1.symm.trans k4)
  subst hcA
  refine W.widen (k := cells + 1) (n := slots + B) (Nat.le_refl _) (by omega) ?_
  rw [show (F0 m pc ls (Value.int n :: st.map (gx_v E))).pc = pc from rfl, hP.1]
  refine kk r h' ho p e R s m args below meth c Q F hR H1 locs (cells + 1) (slots + B) ls (hP.push hz ho1 ?_) ⟨Nat.le_trans hS.1 (by omega), fun x h1 h2 => (ho1 x (Nat.lt_of_lt_of_le h1 hS.1)).trans (hS.2.1 x h1 h2), hS.2.2⟩ (by omega) (by omega) hL
  show H1[H.size]? = some (vp_cell (gx_cT E 3) (n.toNatClampNeg, .inr (.inr (.inr (.inr (fun _ => none))))))
  rw [e1]
  rfl
theorem gx_newR4 {idx : Nat} {n : Int32} {f : gx_H → Option (ρ × gx_H)} (B : Nat) (hw : Cond.classLink own idx RX1 ∈ gx_tbl) (hd : decode cc pc = .ok (.anewarray idx, 3)) (hB : B ≤ 1000) (kk : gx_G E own cc nL rt ini d bc bs (pc + 3) L (.ref h.1 :: st) (gx_new (.inl (4, n.toNatClampNeg, .inr (.inr (.inr (.inr (fun _ => none)))))) h) em o) : gx_G E own cc nL rt ini d (bc + 1) (bs + B) pc L (.int n :: st) h em (if n < 0 ∨ B < n.toNatClampNeg then none else o) := by
  intro r h' ho
  split at ho
  · cases ho
  rename_i hnb
  have hn : ¬ n < 0 := fun q => hnb (Or.inl q)
  have hnB : n.toNatClampNeg ≤ B := Nat.not_lt.mp fun q => hnb (Or.inr q)
  intro p e R s m args below meth c Q F hR H locs cells slots ls hP hS hc hs hL
  refine W.anew F.1 F.2.1 F.2.2.2.1 (F.2.2.2.2.1 _ hw) (va_AO.use F.2.2.2.2.2.1.2.2.2.1) rfl hd rfl hn (by omega) (by omega) (by omega) fun cA kA comp f1 f2 f3 f4 => ?_
  generalize hH1 : H.push ({ cls := cA, slots := Array.replicate n.toNatClampNeg .null, vm := .none } : Cell) = H1
  have hz : H1.size = H.size + 1 := by rw [← hH1, Array.size_push]
  have e1 : H1[H.size]? = some (arrV cA n.toNatClampNeg (fun _ => .null)) := by rw [← hH1, Array.getElem?_push_size, ← arrV_new]
  have ho1 : ∀ q, q < H.size → H1[q]? = H[q]? := fun q hq => by rw [← hH1, Array.getElem?_push, if_neg (Nat.ne_of_lt hq)]
  obtain ⟨kA', comp', k1, k2, k3, k4⟩ := (F.2.2.2.2.2.1.1.2 4 _ rfl).2
  have hcA : cA = gx_cT E 4 := Option.some.inj (f1.symm.trans k4)
  subst hcA
  refine W.widen (k := cells + 1) (n := slots + B) (Nat.le_refl _) (by omega) ?_
  rw [show (F0 m pc ls (Value.int n :: st.map (gx_v E))).pc = pc from rfl, hP.1]
  refine kk r h' ho p e R s m args below meth c Q F hR H1 locs (cells + 1) (slots + B) ls (hP.push hz ho1 ?_) ⟨Nat.le_trans hS.1 (by omega), fun x h1 h2 => (ho1 x (Nat.lt_of_lt_of_le h1 hS.1)).trans (hS.2.1 x h1 h2), hS.2.2⟩ (by omega) (by omega) hL
  show H1[H.size]? = some (vp_cell (gx_cT E 4) (n.toNatClampNeg, .inr (.inr (.inr (.inr (fun _ => none))))))
  rw [e1]
  rfl
end GXA
