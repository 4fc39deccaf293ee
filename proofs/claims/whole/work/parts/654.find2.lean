/-! few: the class's findRow, whole; fewest -/
section FR2
variable {d n np i T : Nat}
theorem c_home {M : mm} (h4 : i < 4) : fX0_isHome 102 (nI i) (lay M) = some (b2 (VC M.1 102 (32 + i) = VC M.1 102 0), lay M) := by
  rw [VC_6 _ _ h4, VC_0 _ _ (by omega)]
  exact c_isHome brd_102 h4
theorem c_find (hd1 : 2 ≤ d) (hd : d ≤ 6) (hi : i < np) (hT : T ≤ 5) : ∀ (m t F : Nat) (M : mm), t + m = T → m < F → okV (VC M.1 102) n np → M.1 102 1 = nI d → (∀ j, j < 5 → M.2.2 110 j = some (111 + j)) → ∃ M', fX5_findRow F 101 (nI i) (nI t) (nI T) (lay M) = some (iB (fv d n i m (VC M.1 102)), lay M') ∧ kF t M M' ∧ fnd M' d t m (fv d n i m (VC M.1 102))
  | m, t, 0, M, _, hF, _, _, _ => by omega
  | 0, t, F + 1, M, ht, _, hok, hD, hP => by
    have h4 : i < 4 := Nat.lt_of_lt_of_le hi hok.2.2.2.1
    show ∃ M', eX5_findRow (fX5_findRow F) 101 (nI i) (nI t) (nI T) (lay M) = _ ∧ _
    unfold eX5_findRow fX5_findRow_21 fX5_findRow_32 fv
    rw [r_101_0, Option.bind_some, c_home h4, gx_bd_some]
    have e : t = T := by omega
    subst e
    by_cases c : VC M.1 102 (32 + i) = VC M.1 102 0
    · rw [b2_t c, if_neg (show ¬ (1 : Int32) = 0 by decide), if_pos (show nI t = nI t from rfl), if_pos c]
      exact ⟨M, rfl, kF.rf, fun y _ s hs => by omega⟩
    · rw [b2_f c, if_pos (show (0 : Int32) = 0 from rfl), if_pos (show nI t ≤ nI t from nI_le (Nat.le_refl _) (by omega)), if_neg c]
      exact ⟨M, rfl, kF.rf, fun y _ s hs => by omega⟩
  | m + 1, t, F + 1, M, ht, hF, hok, hD, hP => by
    have h4 : i < 4 := Nat.lt_of_lt_of_le hi hok.2.2.2.1
    show ∃ M', eX5_findRow (fX5_findRow F) 101 (nI i) (nI t) (nI T) (lay M) = _ ∧ _
    unfold eX5_findRow fX5_findRow_21 fX5_findRow_32 fv
    rw [r_101_0, Option.bind_some, c_home h4, gx_bd_some]
    by_cases c : VC M.1 102 (32 + i) = VC M.1 102 0
    · rw [b2_t c, if_neg (show ¬ (1 : Int32) = 0 by decide), if_neg (show ¬ nI t = nI T from fun z => by have := (nI_eq (by omega) (by omega)).mp z; omega), if_pos c]
      exact ⟨M, rfl, kF.rf, fun y hy => by cases hy⟩
    · rw [b2_f c, if_pos (show (0 : Int32) = 0 from rfl), if_neg (show ¬ nI T ≤ nI t from nI_ge (by omega) (by omega)), if_pos (show nI t < (5 : Int32) from nI_lt (b := 5) (by omega) (by omega)), if_neg c]
      exact c_find_37 hd1 hd hi (show t < 5 by omega) (fX5_findRow F) (fun M' q1 q2 q3 => c_find hd1 hd hi hT m (t + 1) F M' (by omega) (by omega) q1 q2 q3) d 1 gx_N M (by omega) (by omega) (by unfold gx_N; omega) hok hD hP
def lf (g : Nat → Option Nat) : Nat → Nat → Option (Nat × Nat)
  | 0, _ => none
  | m + 1, T => match g T with
    | some y => some (T, y)
    | none => lf g m (T + 1)
def lfI (o : Option (Nat × Nat)) : Int32 := match o with
  | some p => nI p.1
  | none => -1
theorem kF.D {t : Nat} {M M' : mm} (k : kF t M M') (hD : M.1 102 1 = nI d) : M'.1 102 1 = nI d := by
  rw [← VC_0 M'.1 102 (by omega), k.2.1, VC_0 _ _ (by omega)]; exact hD
theorem c_few_10 (hd1 : 2 ≤ d) (hd : d ≤ 6) (hi : i < np) {V : Nat → Int32} (hok : okV V n np) : ∀ (m T F : Nat) (M : mm), T + m = 6 → m < F → VC M.1 102 = V → M.1 102 1 = nI d → (∀ j, j < 5 → M.2.2 110 j = some (111 + j)) → ∃ M', fX5_fewest_10 F 101 (nI i) (nI T) (lay M) = some (lfI (lf (fun T => fv d n i T V) m T), lay M') ∧ kF 0 M M' ∧ ∀ p, lf (fun T => fv d n i T V) m T = some p → p.1 ≤ 5 ∧ ∀ s, s < p.1 → M'.1 117 s = nI (p.2 / d ^ (p.1 - 1 - s) % d + 1)
  | m, T, 0, M, _, hF, _, _, _ => by omega
  | 0, T, F + 1, M, hT, _, hV, hD, hP => by
    show ∃ M', bX5_fewest_10 (fX5_fewest_10 F) 101 (nI i) (nI T) (lay M) = _ ∧ _
    unfold bX5_fewest_10
    rw [if_pos (show (5 : Int32) < nI T from nI_lt (a := 5) (by omega) (by omega))]
    exact ⟨M, rfl, kF.rf, fun p hp => by cases hp⟩
  | m + 1, T, F + 1, M, hT, hF, hV, hD, hP => by
    show ∃ M', bX5_fewest_10 (fX5_fewest_10 F) 101 (nI i) (nI T) (lay M) = _ ∧ _
    unfold bX5_fewest_10 lf
    try dsimp only
    rw [if_neg (show ¬ (5 : Int32) < nI T from by rw [show (5 : Int32) = nI 5 from rfl, t_lt, nI_toInt (by omega), nI_toInt (by omega)]; omega)]
    obtain ⟨M1, a1, a2, a3⟩ := c_find (n := n) (T := T) hd1 hd hi (by omega) T 0 8 M (by omega) (by omega) (by rw [hV]; exact hok) hD hP
    rw [hV] at a1 a3
    have a1' : fX5_findRow 8 101 (nI i) 0 (nI T) (lay M) = some (iB (fv d n i T V), lay M1) := a1
    rw [a1', gx_bd_some]
    cases hq : fv d n i T V with
    | some y =>
      rw [hq] at a3
      rw [if_neg (show ¬ iB (some y) = 0 from (by decide : ¬ (1 : Int32) = 0))]
      refine ⟨M1, rfl, a2, fun p hp => ?_⟩
      cases hp
      refine ⟨by omega, fun s hs => ?_⟩
      have := a3 y rfl s hs
      rwa [Nat.zero_add] at this
    | none =>
      rw [if_pos (show iB none = 0 from rfl), nI_1]
      obtain ⟨M2, b1, b2, b3⟩ := c_few_10 hd1 hd hi hok m (T + 1) F M1 (by omega) (by omega) (by rw [a2.2.1]; exact hV) (a2.D hD) (by rw [a2.1]; exact hP)
      exact ⟨M2, b1, a2.tr b2, b3⟩
theorem eqv_rf {V : Nat → Int32} : eqv n np V V := ⟨rfl, rfl, rfl, rfl, fun _ _ => ⟨rfl, rfl, rfl, rfl⟩, fun _ _ => ⟨rfl, rfl, rfl⟩⟩
/-- the outlook's own board -/
theorem c_out {M : mm} (h : okV (VC M.1 2) n np) : ∃ M1, fX0_copy 102 2 (lay M) = some ((), lay M1) ∧ fr (inB 102) M M1 ∧ okV (VC M1.1 102) n np ∧ eqv n np (VC M1.1 102) (VC M.1 2) ∧ M1.1 102 0 = M.1 2 0 ∧ M1.1 102 1 = M.1 2 1 ∧ M1.1 102 2 = M.1 2 2 ∧ M1.1 102 3 = M.1 2 3 := by
  obtain ⟨M1, a1, a2, a3⟩ := c_bcopy brd_2 brd_102 (by omega) M
  have e : eqv n np (VC M1.1 102) (VC M.1 2) := eqv_iff.mpr (fun j hj => a3 j (by have := h.2.1; have := h.2.2.2.1; unfold rel at hj; omega))
  have e' : eqv n np (VC M.1 2) (VC M1.1 102) := eqv_iff.mpr (fun j hj => (eqv_iff.mp e j hj).symm)
  refine ⟨M1, a1, a2, eqv_ok e' h, e, ?_, ?_, ?_, ?_⟩
  · rw [← VC_0 M1.1 102 (by omega), ← VC_0 M.1 2 (by omega)]; exact e.1
  · rw [← VC_0 M1.1 102 (by omega), ← VC_0 M.1 2 (by omega)]; exact e.2.1
  · rw [← VC_0 M1.1 102 (by omega), ← VC_0 M.1 2 (by omega)]; exact e.2.2.1
  · rw [← VC_0 M1.1 102 (by omega), ← VC_0 M.1 2 (by omega)]; exact e.2.2.2.1
theorem kF.kp {t : Nat} {M M' : mm} (k : kF t M M') : kp M M' := by
  obtain ⟨k1, k2, k3, k4⟩ := k
  exact ⟨by rw [k1], by rw [k1], by rw [k1], by rw [k1], fun a ha => k3 a (by omega), by rw [k3 90 (by omega)], by rw [k3 122 (by omega)], fun j _ => by rw [k3 123 (by omega)]⟩
theorem c_fewest {M : mm} (hd1 : 2 ≤ d) (hd : d ≤ 6) (hi : i < np) (h : okV (VC M.1 2) n np) (hD : M.1 2 1 = nI d) (hP : ∀ j, j < 5 → M.2.2 110 j = some (111 + j)) : ∃ (V : Nat → Int32) (M' : mm), fX5_fewest 101 2 (nI i) (lay M) = some (lfI (lf (fun T => fv d n i T V) 6 0), lay M') ∧ okV V n np ∧ eqv n np V (VC M.1 2) ∧ fr (fun a => 102 ≤ a ∧ a < 118) M M' ∧ ∀ p, lf (fun T => fv d n i T V) 6 0 = some p → p.1 ≤ 5 ∧ ∀ s, s < p.1 → M'.1 117 s = nI (p.2 / d ^ (p.1 - 1 - s) % d + 1) := by
  obtain ⟨M1, a1, a2, a3, a4, a5, a6, a7, a8⟩ := c_out h
  obtain ⟨M2, b1, b2, b3⟩ := c_few_10 (V := VC M1.1 102) hd1 hd hi a3 6 0 gx_N M1 (by omega) (by unfold gx_N; omega) rfl (by rw [a6]; exact hD) (by rw [a2.1]; exact hP)
  refine ⟨VC M1.1 102, M2, ?_, a3, a4, ?_, b3⟩
  · unfold fX5_fewest
    rw [o_101, Option.bind_some, r_101_0, Option.bind_some, a1, gx_bd_some]
    exact b1
  · exact ⟨b2.1.trans a2.1, fun a ha => by rw [b2.2.2.1 a (by omega), a2.2 a (fun z => by unfold inB at z; omega)]⟩
end FR2
