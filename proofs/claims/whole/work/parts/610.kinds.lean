/-! is, kinds: what the notes, the marks leave -/
def allB (t : Nat → Bool) : Nat → Nat → Bool
  | 0, _ => true
  | m + 1, i => t i && allB t m (i + 1)
def orF (f : Nat → Bool) : Nat → Nat → Int32 → Int32
  | 0, _, acc => acc
  | m + 1, k, acc => orF f m (k + 1) (if f k = true then acc ||| ((1 : Int32) <<< (nI k &&& 31)) else acc)
def clF (f : Nat → Bool) : Nat → Nat → Int32 → Int32
  | 0, _, acc => acc
  | m + 1, k, acc => clF f m (k + 1) (if f k = true then acc else acc &&& (((1 : Int32) <<< (nI k &&& 31)) ^^^ (-1 : Int32)))
theorem or_cl (f : Nat → Bool) : orF f 6 0 0 = clF f 6 0 63 := by
  simp only [orF, clF]
  generalize f 0 = a0
  generalize f (0 + 1) = a1
  generalize f (0 + 1 + 1) = a2
  generalize f (0 + 1 + 1 + 1) = a3
  generalize f (0 + 1 + 1 + 1 + 1) = a4
  generalize f (0 + 1 + 1 + 1 + 1 + 1) = a5
  revert a0 a1 a2 a3 a4 a5
  decide
theorem clr_idem (x m : Int32) : (x &&& m) &&& m = x &&& m := by rw [Int32.and_assoc, Int32.and_self]
/-- note e, where the link is l and of kind k -/
def tN (M : mm) (l k e : Nat) : Bool := decide (M.1 21 e = nI l → M.1 24 e = lB (nI k) (M.1 2 0) (M.1 4 l) (M.1 5 l) (M.1 22 e) (M.1 23 e))
def tM (M : mm) (i k e : Nat) : Bool := decide (M.1 26 e = nI i → M.1 29 e = gB (nI k) (M.1 2 0) (M.1 27 e) (M.1 28 e))
section KN
variable {M : mm} {n np hs m : Nat} {q : Nat → Nat}
theorem GM.bL (g : GM M n np hs q) {l : Nat} (hl : l < n) : bn (M.1 5 l) 0 40 := by
  have := okV_to g.1 hl
  rwa [VC_3 _ _ (by have := g.n6; omega)] at this
theorem c_fitN (g : GM M n np hs q) (hm : M.1 20 0 = nI m) (h6 : m ≤ 6) (hb : ∀ e, e < m → bn (M.1 23 e) 1 6) {l k : Nat} (hl : l < n) : ∀ (t e F : Nat), e + t = m → t < F → fX2_fitsNotes_3 F 2 20 (nI l) (nI k) (nI e) (lay M) = some (if allB (tN M l k) t e = true then 1 else 0, lay M)
  | t, e, 0, _, hF => by omega
  | 0, e, F + 1, he, _ => by
    show bX2_fitsNotes_3 (fX2_fitsNotes_3 F) 2 20 (nI l) (nI k) (nI e) (lay M) = _
    unfold bX2_fitsNotes_3
    rw [i_20_0, Option.bind_some, hm, if_pos (nI_le (by omega) (by omega))]
    rfl
  | t + 1, e, F + 1, he, hF => by
    show bX2_fitsNotes_3 (fX2_fitsNotes_3 F) 2 20 (nI l) (nI k) (nI e) (lay M) = _
    have h6' : e < 6 := by omega
    have hl6 : l < 6 := by have := g.n6; omega
    have IH := c_fitN g hm h6 hb (k := k) hl t (e + 1) F (by omega) (by omega)
    have a1 : gx_aI 0 (lay M) 21 (nI e) = some (M.1 21 e) := aI_lay 6 (by decide) (by decide) h6' (by decide)
    have a2 : gx_aI 0 (lay M) 22 (nI e) = some (M.1 22 e) := aI_lay 6 (by decide) (by decide) h6' (by decide)
    have a3 : gx_aI 0 (lay M) 23 (nI e) = some (M.1 23 e) := aI_lay 6 (by decide) (by decide) h6' (by decide)
    have a4 : gx_aI 0 (lay M) 24 (nI e) = some (M.1 24 e) := aI_lay 6 (by decide) (by decide) h6' (by decide)
    have a5 : gx_aI 0 (lay M) 4 (nI l) = some (M.1 4 l) := aI_lay 6 (by decide) (by decide) hl6 (by decide)
    have a6 : gx_aI 0 (lay M) 5 (nI l) = some (M.1 5 l) := aI_lay 6 (by decide) (by decide) hl6 (by decide)
    obtain ⟨r, hr, er⟩ := bn_nI (x := M.1 23 e) (n := 6) ⟨by have := (hb e (by omega)).1; omega, (hb e (by omega)).2⟩
    have hr1 : 1 ≤ r := by have := (hb e (by omega)).1; rw [er, nI_toInt (by omega)] at this; omega
    have hlead : fX2_lead 2 (nI l) (nI k) (M.1 22 e) (M.1 23 e) (lay M) = some (lB (nI k) (M.1 2 0) (M.1 4 l) (M.1 5 l) (M.1 22 e) (M.1 23 e), lay M) := by
      unfold fX2_lead
      rw [br5 brd_2, Option.bind_some, a5, Option.bind_some, br6 brd_2, Option.bind_some, a6, Option.bind_some, bi0 brd_2, Option.bind_some, er, f4_square hr1 hr (g.bL hl) g.L, gx_bd_some]
    unfold bX2_fitsNotes_3 fX2_fitsNotes_56
    rw [i_20_0, Option.bind_some, hm, if_neg (nI_ge (by omega) (by omega)), r_20_1, Option.bind_some, a1, Option.bind_some, nI_1]
    unfold allB
    by_cases c1 : M.1 21 e = nI l
    · rw [if_pos c1, r_20_4, Option.bind_some, a4, Option.bind_some, r_20_2, Option.bind_some, a2, Option.bind_some, r_20_3, Option.bind_some, a3, Option.bind_some, hlead, gx_bd_some]
      by_cases c2 : M.1 24 e = lB (nI k) (M.1 2 0) (M.1 4 l) (M.1 5 l) (M.1 22 e) (M.1 23 e)
      · rw [if_pos c2, show tN M l k e = true from decide_eq_true (fun _ => c2), Bool.true_and]
        exact IH
      · rw [if_neg c2, show tN M l k e = false from decide_eq_false (fun z => c2 (z c1)), Bool.false_and]
        rfl
    · rw [if_neg c1, show tN M l k e = true from decide_eq_true (fun z => absurd z c1), Bool.true_and]
      exact IH
theorem c_fitM (g : GM M n np hs q) (hm : M.1 25 0 = nI m) (h6 : m ≤ 6) {l k : Nat} : ∀ (t e F : Nat), e + t = m → t < F → fX2_fitsMarks_3 F 2 25 (nI l) (nI k) (nI e) (lay M) = some (if allB (tM M l k) t e = true then 1 else 0, lay M)
  | t, e, 0, _, hF => by omega
  | 0, e, F + 1, he, _ => by
    show bX2_fitsMarks_3 (fX2_fitsMarks_3 F) 2 25 (nI l) (nI k) (nI e) (lay M) = _
    unfold bX2_fitsMarks_3
    rw [i_25_0, Option.bind_some, hm, if_pos (nI_le (by omega) (by omega))]
    rfl
  | t + 1, e, F + 1, he, hF => by
    show bX2_fitsMarks_3 (fX2_fitsMarks_3 F) 2 25 (nI l) (nI k) (nI e) (lay M) = _
    have h6' : e < 6 := by omega
    have IH := c_fitM g hm h6 (l := l) (k := k) t (e + 1) F (by omega) (by omega)
    have a1 : gx_aI 0 (lay M) 26 (nI e) = some (M.1 26 e) := aI_lay 6 (by decide) (by decide) h6' (by decide)
    have a2 : gx_aI 0 (lay M) 27 (nI e) = some (M.1 27 e) := aI_lay 6 (by decide) (by decide) h6' (by decide)
    have a3 : gx_aI 0 (lay M) 28 (nI e) = some (M.1 28 e) := aI_lay 6 (by decide) (by decide) h6' (by decide)
    have a4 : gx_aI 0 (lay M) 29 (nI e) = some (M.1 29 e) := aI_lay 6 (by decide) (by decide) h6' (by decide)
    unfold bX2_fitsMarks_3 fX2_fitsMarks_61
    rw [i_25_0, Option.bind_some, hm, if_neg (nI_ge (by omega) (by omega)), r_25_2, Option.bind_some, a2, Option.bind_some, r_25_3, Option.bind_some, a3, Option.bind_some, bi0 brd_2, Option.bind_some, f6_square, gx_bd_some, r_25_1, Option.bind_some, a1, Option.bind_some, nI_1]
    unfold allB
    by_cases c1 : M.1 26 e = nI l
    · rw [if_pos c1, r_25_4, Option.bind_some, a4, Option.bind_some]
      by_cases c2 : M.1 29 e = gB (nI k) (M.1 2 0) (M.1 27 e) (M.1 28 e)
      · rw [if_pos c2, show tM M l k e = true from decide_eq_true (fun _ => c2), Bool.true_and]
        exact IH
      · rw [if_neg c2, show tM M l k e = false from decide_eq_false (fun z => c2 (z c1)), Bool.false_and]
        rfl
    · rw [if_neg c1, show tM M l k e = true from decide_eq_true (fun z => absurd z c1), Bool.true_and]
      exact IH
theorem c_linkKinds_l (g : GM M n np hs q) (hm : M.1 20 0 = nI m) (h6 : m ≤ 6) (hb : ∀ e, e < m → bn (M.1 23 e) 1 6) {l : Nat} (hl : l < n) : ∀ (t k F : Nat) (acc : Int32), k + t = 6 → t < F → fX2_linkKinds_6 F 120 2 20 (nI l) acc (nI k) (lay M) = some (orF (fun k => allB (tN M l k) m 0) t k acc, lay M)
  | t, k, 0, acc, _, hF => by omega
  | 0, k, F + 1, acc, hk, _ => by
    show bX2_linkKinds_6 (fX2_linkKinds_6 F) 120 2 20 (nI l) acc (nI k) (lay M) = _
    unfold bX2_linkKinds_6
    rw [if_pos (show (6 : Int32) ≤ nI k from nI_le (a := 6) (by omega) (by omega))]
    rfl
  | t + 1, k, F + 1, acc, hk, hF => by
    show bX2_linkKinds_6 (fX2_linkKinds_6 F) 120 2 20 (nI l) acc (nI k) (lay M) = _
    have hf : fX2_fitsNotes 120 2 20 (nI l) (nI k) (lay M) = some (if allB (tN M l k) m 0 = true then 1 else 0, lay M) := by
      unfold fX2_fitsNotes
      rw [o_120, Option.bind_some]
      exact c_fitN g hm h6 hb hl m 0 gx_N (by omega) (by unfold gx_N; omega)
    unfold bX2_linkKinds_6 fX2_linkKinds_34
    rw [if_neg (show ¬ (6 : Int32) ≤ nI k from nI_ge (b := 6) (by omega) (by omega)), hf, gx_bd_some, nI_1]
    unfold orF
    by_cases c : allB (tN M l k) m 0 = true
    · rw [if_pos c, if_neg (by decide), if_pos c]
      exact c_linkKinds_l g hm h6 hb hl t (k + 1) F _ (by omega) (by omega)
    · rw [if_neg c, if_pos rfl, if_neg c]
      exact c_linkKinds_l g hm h6 hb hl t (k + 1) F _ (by omega) (by omega)
theorem c_playerKinds_l (g : GM M n np hs q) (hm : M.1 25 0 = nI m) (h6 : m ≤ 6) {l : Nat} : ∀ (t k F : Nat) (acc : Int32), k + t = 6 → t < F → fX2_playerKinds_6 F 2 25 (nI l) acc (nI k) (lay M) = some (orF (fun k => allB (tM M l k) m 0) t k acc, lay M)
  | t, k, 0, acc, _, hF => by omega
  | 0, k, F + 1, acc, hk, _ => by
    show bX2_playerKinds_6 (fX2_playerKinds_6 F) 2 25 (nI l) acc (nI k) (lay M) = _
    unfold bX2_playerKinds_6
    rw [if_pos (show (6 : Int32) ≤ nI k from nI_le (a := 6) (by omega) (by omega))]
    rfl
  | t + 1, k, F + 1, acc, hk, hF => by
    show bX2_playerKinds_6 (fX2_playerKinds_6 F) 2 25 (nI l) acc (nI k) (lay M) = _
    have hf : fX2_fitsMarks 2 25 (nI l) (nI k) (lay M) = some (if allB (tM M l k) m 0 = true then 1 else 0, lay M) := by
      unfold fX2_fitsMarks
      exact c_fitM g hm h6 m 0 gx_N (by omega) (by unfold gx_N; omega)
    unfold bX2_playerKinds_6 fX2_playerKinds_33
    rw [if_neg (show ¬ (6 : Int32) ≤ nI k from nI_ge (b := 6) (by omega) (by omega)), hf, gx_bd_some, nI_1]
    unfold orF
    by_cases c : allB (tM M l k) m 0 = true
    · rw [if_pos c, if_neg (by decide), if_pos c]
      exact c_playerKinds_l g hm h6 t (k + 1) F _ (by omega) (by omega)
    · rw [if_neg c, if_pos rfl, if_neg c]
      exact c_playerKinds_l g hm h6 t (k + 1) F _ (by omega) (by omega)
end KN
