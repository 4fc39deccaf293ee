/-! the first memory -/
def FIN : List gx_C := slC 0 ++ refC 122
def m1 (c : Option gx_C) (j : Nat) : Int32 := match c with
  | some (.inl (_, _, .inl f)) => f j
  | some (.inr (_, fs)) => (match fs[j]? with
    | some (.int x) => x
    | _ => 0)
  | _ => 0
def m2 (c : Option gx_C) (j : Nat) : Int64 := match c with
  | some (.inr (_, fs)) => (match fs[j]? with
    | some (.long x) => x
    | _ => 0)
  | _ => 0
def m3 (c : Option gx_C) (j : Nat) : Option Nat := match c with
  | some (.inl (_, _, .inr (.inr (.inr (.inr f))))) => f j
  | _ => none
def M0 : mm := (fun k => m1 FIN[k]?, fun k => m2 FIN[k]?, fun k => m3 FIN[k]?)
set_option maxRecDepth 100000 in
theorem FIN_eq : FIN = (List.range 130).map (cel M0) := rfl
theorem FIN_len : FIN.length = 130 := by rw [FIN_eq, List.length_map, List.length_range]
theorem lay_FIN : hl FIN = lay M0 := by
  refine Prod.ext FIN_len ?_
  funext k
  show (FIN[k]?).getD gx_junk = cel M0 k
  by_cases c : k < 130
  · rw [FIN_eq, List.getElem?_map, List.getElem?_range c]
    rfl
  · rw [List.getElem?_eq_none (by rw [FIN_len]; omega)]
    have e : shp[k]? = none := List.getElem?_eq_none (by show 130 ≤ k; omega)
    unfold cel
    rw [e]
    rfl
set_option maxRecDepth 100000 in
theorem RG_M0 : GM M0 0 0 0 (fun j => 11 + j) := by
  refine ⟨⟨rfl, by omega, rfl, by omega, by unfold bn; decide, by unfold bn; decide, fun k hk => by omega, fun i hi => by omega⟩, ⟨rfl, rfl, rfl, rfl, fun k hk => by omega, fun i hi => by omega⟩, ⟨0, by omega, rfl, rfl, fun e he => by omega, fun e he => by omega⟩, ⟨0, by omega, rfl, rfl, fun e he => by omega, fun e he => by omega⟩, by omega, rfl, rfl, fun j hj => ⟨?_, Nat.le_add_right 11 j, Nat.add_lt_add_left hj 11⟩, fun i j _ _ h => Nat.add_left_cancel h, trivial⟩
  rcases (show j = 0 ∨ j = 1 ∨ j = 2 ∨ j = 3 ∨ j = 4 ∨ j = 5 ∨ j = 6 ∨ j = 7 by omega) with rfl | rfl | rfl | rfl | rfl | rfl | rfl | rfl <;> rfl
set_option maxRecDepth 100000 in
theorem IP_31 : IP M0 31 := by
  refine ⟨fun j => 11 + j, fun j hj => ⟨?_, Nat.le_add_right 11 j, Nat.add_lt_add_left hj 11⟩, fun i j _ _ h => Nat.add_left_cancel h⟩
  rcases (show j = 0 ∨ j = 1 ∨ j = 2 ∨ j = 3 ∨ j = 4 ∨ j = 5 ∨ j = 6 ∨ j = 7 by omega) with rfl | rfl | rfl | rfl | rfl | rfl | rfl | rfl <;> rfl
set_option maxRecDepth 100000 in
theorem IP_60 : IP M0 60 := by
  refine ⟨fun j => 11 + j, fun j hj => ⟨?_, Nat.le_add_right 11 j, Nat.add_lt_add_left hj 11⟩, fun i j _ _ h => Nat.add_left_cancel h⟩
  rcases (show j = 0 ∨ j = 1 ∨ j = 2 ∨ j = 3 ∨ j = 4 ∨ j = 5 ∨ j = 6 ∨ j = 7 by omega) with rfl | rfl | rfl | rfl | rfl | rfl | rfl | rfl <;> rfl
set_option maxRecDepth 100000 in
theorem Inv_M0 : Inv M0 := by
  refine ⟨GM_iff.mpr ⟨0, 0, 0, _, RG_M0⟩, ⟨rfl, Or.inl rfl⟩, ⟨rfl, Or.inl rfl⟩, ⟨0, by omega, rfl, rfl, fun k hk => by omega⟩, ⟨rfl, rfl⟩, ⟨rfl, rfl, rfl⟩, ⟨fun j hj => ?_, rfl, rfl, IP_31, IP_60⟩⟩
  rcases (show j = 0 ∨ j = 1 ∨ j = 2 ∨ j = 3 ∨ j = 4 by omega) with rfl | rfl | rfl | rfl | rfl <;> rfl
theorem h0_nil : gx_h0 = hl [] := rfl
set_option maxRecDepth 100000 in
theorem law_start (E : gx_Env) : fL_law E gx_h0 = fL_law_18 E gx_N 11 0 122 0 (lay M0) := by
  have a1 : fX10_init (hl []).1 (hl ([] ++ [.inr (8, [.null, .null, .null, .null, .null, .null, .long 0, .long 0, .int 0, .int 0, .int 0])])) = some ((), hl (slC 0)) := mk_sl (l := [])
  have a2 : fX11_init (hl (slC 0)).1 (hl (slC 0 ++ [.inr (9, [.null, .null, .null, .int 0, .long 0, .long 0, .null, .int 0, .int 0, .int 0, .null, .null, .null, .long 0])])) = some ((), hl (slC 0 ++ refC (hl (slC 0)).1)) := mk_ref (l := slC 0)
  have e0 : (hl (slC 0)).1 = 122 := rfl
  have e1 : (hl []).1 = 0 := rfl
  unfold fL_law
  rw [h0_nil, lt_new, a1, gx_bd_some, lt_new, a2, gx_bd_some, e0, e1]
  show fL_law_18 E gx_N 11 0 122 0 (hl FIN) = _
  rw [lay_FIN]
theorem law_all {E : gx_Env} {L : Nat} {xs : Nat → Int32} (hE : E.2.2.2.2.2 = (L, xs)) (hL : L ≤ 2560) : ∃ h', fL_law E gx_h0 = some (1, h') := by
  rw [law_start]
  exact law_l hE hL gx_N 0 M0 Inv_M0 (Or.inl rfl) (by unfold gx_N; omega)
