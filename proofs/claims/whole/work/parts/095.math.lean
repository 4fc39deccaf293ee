section GXM
variable {E : gx_Env} {own : String} {cc : ByteArray} {nL : Nat} {rt : Option FieldType} {ini : Bool} {d bc bs pc : Nat} {L : List (Option Value)} {st : List Value} {h : gx_H} {ρ : Type} {em : ρ → Option Value} {o o1 o2 : Option (ρ × gx_H)}
theorem gx_mmax {idx : Nat} {x y : Int32} (w1 : Cond.methodLink own idx Lib.Math.max.name ∈ gx_tbl) (w2 : Cond.static Lib.Math.max.name ∈ gx_tbl) (w3 : Cond.initialized "java/lang/Math" ∈ gx_tbl) (w4 : Cond.code Lib.Math.max.name Lib.Math.max.code 2 (some .int) ∈ gx_tbl) (hd : decode cc pc = .ok (.invokestatic idx, 3)) (hst : (st.map fun v => v.category).sum ≤ 8)
    (kk : gx_G E own cc nL rt ini (d + 1) bc bs (pc + 3) L (.int (if x < y then y else x) :: st) h em o) : gx_G E own cc nL rt ini (d + 1) bc bs pc L (.int y :: .int x :: st) h em o := by
  intro r h' ho p e R s m args below meth c Q F hR H locs cells slots ls hP hS hc hs hL
  have hts := F.2.2.2.2.1
  have hfr := F.2.2.2.2.2.2.1
  have hq := gx_rm F.fm hst
  exact va_mmax F.1 F.2.1 (F.2.2.1.trans hL.2.1.symm) F.2.2.2.1 (hts _ w1) (hts _ w2) (hts _ w3) (hts _ w4) (by omega) (by omega) (by omega) (by omega) hd (kk r h' ho p e R s m args below meth c Q F hR H locs cells slots ls hP hS hc hs hL)
theorem gx_mmin {idx : Nat} {x y : Int32} (w1 : Cond.methodLink own idx Lib.Math.min.name ∈ gx_tbl) (w2 : Cond.static Lib.Math.min.name ∈ gx_tbl) (w3 : Cond.initialized "java/lang/Math" ∈ gx_tbl) (w4 : Cond.code Lib.Math.min.name Lib.Math.min.code 2 (some .int) ∈ gx_tbl) (hd : decode cc pc = .ok (.invokestatic idx, 3)) (hst : (st.map fun v => v.category).sum ≤ 8)
    (kk : gx_G E own cc nL rt ini (d + 1) bc bs (pc + 3) L (.int (if y < x then y else x) :: st) h em o) : gx_G E own cc nL rt ini (d + 1) bc bs pc L (.int y :: .int x :: st) h em o := by
  intro r h' ho p e R s m args below meth c Q F hR H locs cells slots ls hP hS hc hs hL
  have hts := F.2.2.2.2.1
  have hfr := F.2.2.2.2.2.2.1
  have hq := gx_rm F.fm hst
  exact va_mmin F.1 F.2.1 (F.2.2.1.trans hL.2.1.symm) F.2.2.2.1 (hts _ w1) (hts _ w2) (hts _ w3) (hts _ w4) (by omega) (by omega) (by omega) (by omega) hd (kk r h' ho p e R s m args below meth c Q F hR H locs cells slots ls hP hS hc hs hL)
end GXM
