/-! spread: how many rows of throws end on each square -/
section SP
variable {d n np i T : Nat}
def Fq (i q : Nat) (W : Nat → Int32) : Nat := if W (32 + i) = nI q then 1 else 0
def kS (t : Nat) (M M' : mm) : Prop := M'.2 = M.2 ∧ VC M'.1 102 = VC M.1 102 ∧ ∀ a, a < 102 ∨ a = 110 ∨ (111 ≤ a ∧ a < 111 + t) ∨ 117 ≤ a → M'.1 a = M.1 a
theorem kS.tr {t : Nat} {M M' M'' : mm} (h : kS t M M') (h2 : kS t M' M'') : kS t M M'' := ⟨h2.1.trans h.1, h2.2.1.trans h.2.1, fun a ha => (h2.2.2 a ha).trans (h.2.2 a ha)⟩
def adds (M M' : mm) (f : Nat → Nat) : Prop := ∀ q, q ≤ 40 → M'.1 116 q = M.1 116 q + nI (f q)
theorem adds.tr {M M' M'' : mm} {f g : Nat → Nat} (h : adds M M' f) (h2 : adds M' M'' g) : adds M M'' (fun q => f q + g q) := fun q hq => by
  show M''.1 116 q = M.1 116 q + nI (f q + g q)
  rw [h2 q hq, h q hq, ← nI_add]
  exact Int32.add_assoc _ _ _
theorem kS.D {t : Nat} {M M' : mm} (k : kS t M M') (hD : M.1 102 1 = nI d) : M'.1 102 1 = nI d := by
  rw [← VC_0 M'.1 102 (by omega), k.2.1, VC_0 _ _ (by omega)]; exact hD
theorem c_addR {M : mm} {p m : Nat} (hp : p ≤ 40) (hm : m ≤ 1000) (hD : M.1 102 1 = nI d) {W : Nat → Int32} (hW : W (32 + i) = nI p) : ∃ M', fX5_addRows 101 (nI p) (nI m) (lay M) = some ((), lay M') ∧ (∀ t, t ≤ 5 → kS t M M') ∧ adds M M' (fun q => d ^ m * Fq i q W) := by
  refine ⟨sI M 116 p (M.1 116 p + nI (d ^ m)), ?_, fun t ht => ⟨rfl, VC_out _ _ (by omega), fun a ha => sI_o (by omega)⟩, fun q hq => ?_⟩
  · unfold fX5_addRows fX5_addRows_30
    rw [o_101, Option.bind_some, f10_within, gx_bd_some, b2_t ⟨show nI 0 ≤ nI p from nI_le (by omega) (by omega), show nI p ≤ nI 40 from nI_le (by omega) (by omega)⟩, if_neg (by decide), r_101_2, Option.bind_some, aI_lay 41 (show isA 116 0 41 = true by decide) (by decide) (show p < 41 by omega) (by decide), Option.bind_some, r_101_0, Option.bind_some, bi1 brd_102, Option.bind_some, hD, c_power _ hm, gx_bd_some, sI_lay 41 (show isA 116 0 41 = true by decide) (by decide) (show p < 41 by omega) (by decide), Option.bind_some]
  · show (sI M 116 p (M.1 116 p + nI (d ^ m))).1 116 q = M.1 116 q + nI (d ^ m * Fq i q W)
    unfold Fq
    rw [hW]
    by_cases e : q = p
    · subst e
      rw [sI_s, if_pos rfl, Nat.mul_one]
    · rw [sI_n e, if_neg (ne_nI (by omega) (by omega) (fun z => e z.symm)), Nat.mul_zero]
      exact (Int32.add_zero _).symm
theorem SS_end {F : (Nat → Int32) → Nat} {m : Nat} {W : Nat → Int32} (h : m = 0 ∨ W (32 + i) = W 0) : SS d n (fun _ => i) F m W = d ^ m * F W := by
  rcases h with rfl | h
  · rw [SS_0, Nat.pow_zero, Nat.one_mul]
  · exact SS_home h m
theorem c_spread_9 (hd1 : 2 ≤ d) (hd : d ≤ 6) (hi : i < np) (hT : T ≤ 5) {m t : Nat} (ht : t + (m + 1) = T) (kr : Nat → Int32 → Int32 → Int32 → gx_H → Option (Unit × gx_H))
    (hkr : 1 ≤ m → ∀ M : mm, okV (VC M.1 102) n np → ¬ VC M.1 102 (32 + i) = VC M.1 102 0 → M.1 102 1 = nI d → (∀ j, j < 5 → M.2.2 110 j = some (111 + j)) → ∃ M', kr 101 (nI i) (nI (t + 1)) (nI T) (lay M) = some ((), lay M') ∧ kS (t + 1) M M' ∧ adds M M' (fun q => SS d n (fun _ => i) (Fq i q) m (VC M.1 102))) :
    ∀ (c r F : Nat) (M : mm), r + c = d + 1 → 1 ≤ r → c < F → okV (VC M.1 102) n np → M.1 102 1 = nI d → (∀ j, j < 5 → M.2.2 110 j = some (111 + j)) → ∃ M', fX5_spreadOn_9 kr F 101 (nI i) (nI t) (nI T) (nI r) (lay M) = some ((), lay M') ∧ kS t M M' ∧ adds M M' (fun q => sm (fun j => SS d n (fun _ => i) (Fq i q) m (thr (VC M.1 102) n i (nI (r + j)))) c)
  | c, r, 0, M, _, _, hF, _, _, _ => by omega
  | 0, r, F + 1, M, hr, _, _, hok, hD, hP => by
    show ∃ M', bX5_spreadOn_9 kr (fX5_spreadOn_9 kr F) 101 (nI i) (nI t) (nI T) (nI r) (lay M) = _ ∧ _
    unfold bX5_spreadOn_9
    rw [r_101_0, Option.bind_some, bi1 brd_102, Option.bind_some, hD, if_pos (nI_lt (by omega) (by omega))]
    exact ⟨M, rfl, ⟨rfl, rfl, fun _ _ => rfl⟩, fun q hq => (Int32.add_zero _).symm⟩
  | c + 1, r, F + 1, M, hr, h1, hF, hok, hD, hP => by
    have hr6 : r ≤ 6 := by omega
    have h4 : i < 4 := Nat.lt_of_lt_of_le hi hok.2.2.2.1
    generalize hV : VC M.1 102 = V at *
    have hL : M.1 102 0 = V 0 := by rw [← hV, VC_0 _ _ (by omega)]
    have fin : ∀ M1, kS t M M1 → adds M M1 (fun q => SS d n (fun _ => i) (Fq i q) m (thr V n i (nI r))) → ∃ M', fX5_spreadOn_9 kr F 101 (nI i) (nI t) (nI T) (nI r + 1) (lay M1) = some ((), lay M') ∧ kS t M M' ∧ adds M M' (fun q => sm (fun j => SS d n (fun _ => i) (Fq i q) m (thr V n i (nI (r + j)))) (c + 1)) := by
      intro M1 k1 s1
      have hV1 : VC M1.1 102 = V := by rw [k1.2.1]; exact hV
      obtain ⟨M2, e1, e2, e3⟩ := c_spread_9 hd1 hd hi hT ht kr hkr c (r + 1) F M1 (by omega) (by omega) (by omega) (by rw [hV1]; exact hok) (k1.D hD) (by rw [k1.1]; exact hP)
      rw [nI_1]
      refine ⟨M2, e1, k1.tr e2, fun q hq => ?_⟩
      rw [hV1] at e3
      have := (s1.tr e3) q hq
      show M2.1 116 q = M.1 116 q + nI (sm (fun j => SS d n (fun _ => i) (Fq i q) m (thr V n i (nI (r + j)))) (c + 1))
      rw [sm_first, Nat.add_zero, sm_eq (g' := fun j => SS d n (fun _ => i) (Fq i q) m (thr V n i (nI (r + 1 + j)))) c (fun x _ => by rw [show r + (x + 1) = r + 1 + x by omega])]
      exact this
    show ∃ M', bX5_spreadOn_9 kr (fX5_spreadOn_9 kr F) 101 (nI i) (nI t) (nI T) (nI r) (lay M) = _ ∧ _
    unfold bX5_spreadOn_9 fX5_spreadOn_52 fX5_spreadOn_104
    rw [r_101_0, Option.bind_some, bi1 brd_102, Option.bind_some, hD, if_neg (show ¬ nI d < nI r from by rw [t_lt, nI_toInt (by omega), nI_toInt (by omega)]; omega), Option.bind_some, c_landing brd_102 (n := n) (np := np) (by rw [hV]; exact hok) hi h1 hr6, gx_bd_some, hV]
    have hb := okV_sq hok hi h1 hr6
    obtain ⟨p, hp, ep⟩ := bn_nI (x := sqV V n i (nI r)) (n := 40) ⟨hb.1, by have := hb.2; have := hok.2.2.2.2.1.2; omega⟩
    have hsq : thr V n i (nI r) (32 + i) = nI p := (thr_at h4 hok.2.1).trans ep
    have h0 : thr V n i (nI r) 0 = V 0 := thr_o (by omega) (by omega) (fun k _ => by omega)
    rw [ep, nI_1, show (nI T - nI t) - 1 = nI m from by rw [show (1 : Int32) = nI 1 from rfl, pk_sub (by omega), pk_sub (by omega)]; congr 1; omega]
    obtain ⟨Ma, a1, a2, a3⟩ := c_addR (d := d) (i := i) (m := m) (M := M) hp (by omega) hD hsq
    by_cases cm : m = 0
    · rw [if_pos (nI_le (by omega) (by omega)), a1, gx_bd_some]
      exact fin Ma (a2 t (by omega)) (fun q hq => by dsimp only; rw [SS_end (Or.inl cm)]; exact a3 q hq)
    rw [if_neg (nI_ge (by omega) (by omega)), r_101_0, Option.bind_some, bi0 brd_102, Option.bind_some, hL]
    by_cases ch : nI p = V 0
    · rw [if_pos ch, a1, gx_bd_some]
      exact fin Ma (a2 t (by omega)) (fun q hq => by dsimp only; rw [SS_end (Or.inr (by rw [hsq, h0]; exact ch))]; exact a3 q hq)
    rw [if_neg ch, Option.bind_some, r_101_1, Option.bind_some, ar110 (show t < 5 by omega) hP, Option.bind_some]
    obtain ⟨M1, b1, b2, b3, b4⟩ := c_mv (M := M) (n := n) (np := np) (i := i) (r := r) (t := t) (by rw [hV]; exact hok) hi h1 hr6 (by omega)
    rw [hV] at b2 b3
    rw [b1, gx_bd_some]
    have hok1 : okV (VC M1.1 102) n np := by rw [b2]; exact okV_thr hok hi h1 hr6
    have hD1 : M1.1 102 1 = nI d := by
      rw [← VC_0 M1.1 102 (by omega), b2, thr_o (by omega) (by omega) (fun k _ => by omega), ← hV, VC_0 _ _ (by omega)]; exact hD
    obtain ⟨M2, e1, e2, e3⟩ := hkr (by omega) M1 hok1 (by rw [b2, hsq, h0]; exact ch) hD1 (by rw [b4.1]; exact hP)
    rw [b2] at e3
    rw [e1, gx_bd_some, r_101_0, Option.bind_some, r_101_1, Option.bind_some, ar110 (show t < 5 by omega) (by rw [e2.1, b4.1]; exact hP), Option.bind_some]
    have hs2 : sto M2 V n i r t := by
      unfold sto
      rw [e2.2.2 (111 + t) (by omega)]
      exact b3
    obtain ⟨M3, c1, c2, c3⟩ := c_tb (M := M2) hok hi (by omega) (by rw [e2.2.1]; exact b2) hs2
    rw [c1, gx_bd_some]
    have f3 : ∀ a, ¬ (102 ≤ a ∧ a < 110) → M3.1 a = M2.1 a := fun a ha => c3.2 a (fun z => by unfold inB at z; omega)
    have f1 : ∀ a, ¬ (102 ≤ a ∧ a < 110) → a ≠ 111 + t → M1.1 a = M.1 a := fun a h1 h2 => b4.2 a (fun z => by unfold inBS at z; omega)
    refine fin M3 ⟨c3.1.trans (e2.1.trans b4.1), by rw [c2]; exact hV.symm, fun a ha => by rw [f3 a (by omega), e2.2.2 a (by omega), f1 a (by omega) (by omega)]⟩ (fun q hq => ?_)
    rw [f3 116 (by omega), e3 q hq, f1 116 (by omega) (by omega)]
theorem c_spread (hd1 : 2 ≤ d) (hd : d ≤ 6) (hi : i < np) (hT : T ≤ 5) : ∀ (F m t : Nat) (M : mm), t + (m + 1) = T → m < F → okV (VC M.1 102) n np → ¬ VC M.1 102 (32 + i) = VC M.1 102 0 → M.1 102 1 = nI d → (∀ j, j < 5 → M.2.2 110 j = some (111 + j)) → ∃ M', fX5_spreadOn F 101 (nI i) (nI t) (nI T) (lay M) = some ((), lay M') ∧ kS t M M' ∧ adds M M' (fun q => SS d n (fun _ => i) (Fq i q) (m + 1) (VC M.1 102))
  | 0, m, t, M, _, hF, _, _, _, _ => by omega
  | F + 1, m, t, M, ht, hF, hok, hh, hD, hP => by
    show ∃ M', eX5_spreadOn (fX5_spreadOn F) 101 (nI i) (nI t) (nI T) (lay M) = _ ∧ _
    unfold eX5_spreadOn
    rw [if_pos (show nI t < (5 : Int32) from nI_lt (b := 5) (by omega) (by omega))]
    obtain ⟨M', e1, e2, e3⟩ := c_spread_9 (n := n) hd1 hd hi hT ht (fX5_spreadOn F) (fun hm M1 q1 q2 q3 q4 => by
      obtain ⟨m', rfl⟩ : ∃ m', m = m' + 1 := ⟨m - 1, by omega⟩
      exact c_spread hd1 hd hi hT F m' (t + 1) M1 (by omega) (by omega) q1 q2 q3 q4) d 1 gx_N M (by omega) (by omega) (by unfold gx_N; omega) hok hD hP
    refine ⟨M', e1, e2, fun q hq => ?_⟩
    show M'.1 116 q = M.1 116 q + nI (SS d n (fun _ => i) (Fq i q) (m + 1) (VC M.1 102))
    rw [SS_go hh, sm_eq (g' := fun j => SS d n (fun _ => i) (Fq i q) m (thr (VC M.1 102) n i (nI (1 + j)))) d (fun x _ => by rw [Nat.add_comm])]
    exact e3 q hq
def spT (v1 v2 v3 : Int32) (h : gx_H) : Option (Unit × gx_H) :=
    (gx_fR h 101 4 0).bind fun a1 =>
    (gx_fR h a1 0 9).bind fun a2 =>
    (gx_sI 0 h a2 v1 v2).bind fun h3 =>
    if v3 ≤ 0 then
      fX5_spreadFrom_49 101 v2 v3 h3
    else
      (gx_fR h3 101 4 0).bind fun a4 =>
      gx_bd (fX0_isHome a4 v1 h3) fun x6 h5 =>
      if x6 = 0 then
        gx_bd (fX5_spreadOn 8 101 v1 (0 : Int32) v3 h5) fun u8 h7 =>
        fX5_spreadFrom_65 h7
      else
        fX5_spreadFrom_49 101 v2 v3 h5
theorem c_zero {v1 v2 v3 : Int32} : ∀ (m q F : Nat) (M : mm), q + m = 41 → m < F → ∃ M', fX5_spreadFrom_3 F 101 v1 v2 v3 (nI q) (lay M) = spT v1 v2 v3 (lay M') ∧ fr (fun a => a = 116) M M' ∧ (∀ j, j < q → M'.1 116 j = M.1 116 j) ∧ ∀ j, q ≤ j → j ≤ 40 → M'.1 116 j = 0
  | m, q, 0, M, _, hF => by omega
  | 0, q, F + 1, M, hq, _ => by
    show ∃ M', bX5_spreadFrom_3 (fX5_spreadFrom_3 F) 101 v1 v2 v3 (nI q) (lay M) = _ ∧ _
    unfold bX5_spreadFrom_3
    rw [if_pos (show (40 : Int32) < nI q from nI_lt (a := 40) (by omega) (by omega))]
    exact ⟨M, rfl, fr.rf, fun j _ => rfl, fun j h1 h2 => by omega⟩
  | m + 1, q, F + 1, M, hq, hF => by
    show ∃ M', bX5_spreadFrom_3 (fX5_spreadFrom_3 F) 101 v1 v2 v3 (nI q) (lay M) = _ ∧ _
    unfold bX5_spreadFrom_3
    rw [if_neg (show ¬ (40 : Int32) < nI q from by rw [show (40 : Int32) = nI 40 from rfl, t_lt, nI_toInt (by omega), nI_toInt (by omega)]; omega), r_101_2, Option.bind_some, sI_lay 41 (show isA 116 0 41 = true by decide) (by decide) (show q < 41 by omega) (by decide), Option.bind_some, nI_1]
    obtain ⟨M', e1, e2, e3, e4⟩ := c_zero m (q + 1) F (sI M 116 q 0) (by omega) (by omega)
    refine ⟨M', e1, ((fr.rf (S := fun a => a = 116) (M := M)).put rfl).tr e2, fun j hj => ?_, fun j h1 h2 => ?_⟩
    · rw [e3 j (by omega), sI_n (by omega)]
    · by_cases z : j = q
      · subst z; rw [e3 j (by omega), sI_s]
      · exact e4 j (by omega) h2
theorem c_spreadFrom {M : mm} {p : Nat} (hd1 : 2 ≤ d) (hd : d ≤ 6) (hi : i < np) (hT : T ≤ 5) (hp : p ≤ 40) (hok : okV (upd (VC M.1 102) (32 + i) (nI p)) n np) (hD : M.1 102 1 = nI d) (hP : ∀ j, j < 5 → M.2.2 110 j = some (111 + j)) : ∃ M', fX5_spreadFrom 101 (nI i) (nI p) (nI T) (lay M) = some ((), lay M') ∧ M'.2 = M.2 ∧ VC M'.1 102 = upd (VC M.1 102) (32 + i) (nI p) ∧ (∀ a, a < 102 ∨ a = 110 ∨ 117 ≤ a → M'.1 a = M.1 a) ∧ ∀ q, q ≤ 40 → M'.1 116 q = nI (SS d n (fun _ => i) (Fq i q) T (upd (VC M.1 102) (32 + i) (nI p))) := by
  have h4 : i < 4 := Nat.lt_of_lt_of_le hi hok.2.2.2.1
  obtain ⟨M1, a1, a2, a3, a4⟩ := c_zero (v1 := nI i) (v2 := nI p) (v3 := nI T) 41 0 gx_N M (by omega) (by unfold gx_N; omega)
  have a1' : fX5_spreadFrom_3 gx_N 101 (nI i) (nI p) (nI T) 0 (lay M) = _ := a1
  unfold fX5_spreadFrom
  rw [o_101, Option.bind_some, a1']
  have hV1 : VC M1.1 102 = VC M.1 102 := a2.V (fun a h1 h2 z => by omega)
  generalize hW : upd (VC M.1 102) (32 + i) (nI p) = W at *
  have hV2 : VC (sI M1 (102 + 6) i (nI p)).1 102 = W := by
    show VC (up2 M1.1 (102 + 6) i (nI p)) 102 = W
    rw [VC_u6 _ _ _ h4, hV1, hW]
  have hWi : W (32 + i) = nI p := by rw [← hW, upd_s]
  have hW0 : W 0 = VC M.1 102 0 := by rw [← hW, upd_n _ _ (by omega)]
  unfold spT fX5_spreadFrom_49 fX5_spreadFrom_65
  rw [r_101_0, Option.bind_some, br9 brd_102, Option.bind_some, bs6 brd_102 h4, Option.bind_some]
  generalize hM2 : sI M1 (102 + 6) i (nI p) = M2 at *
  have e2 : M2.2 = M.2 := by rw [← hM2]; exact a2.1
  have ec : ∀ a, a < 102 ∨ a = 110 ∨ 111 ≤ a → a ≠ 116 → M2.1 a = M.1 a := fun a h1 h2 => by rw [← hM2, sI_o (by omega), a2.2 a h2]
  have ez : ∀ q, q ≤ 40 → M2.1 116 q = 0 := fun q hq => by rw [← hM2, sI_o (by omega)]; exact a4 q (by omega) hq
  have hD2 : M2.1 102 1 = nI d := by rw [← VC_0 M2.1 102 (by omega), hV2, ← hW, upd_n _ _ (by omega), VC_0 _ _ (by omega)]; exact hD
  have hP2 : ∀ j, j < 5 → M2.2.2 110 j = some (111 + j) := by rw [e2]; exact hP
  obtain ⟨Ma, b1, b2, b3⟩ := c_addR (d := d) (i := i) (m := T) (M := M2) hp (by omega) hD2 hWi
  have fin : ∀ M3, kS 0 M2 M3 → adds M2 M3 (fun q => SS d n (fun _ => i) (Fq i q) T W) → M3.2 = M.2 ∧ VC M3.1 102 = W ∧ (∀ a, a < 102 ∨ a = 110 ∨ 117 ≤ a → M3.1 a = M.1 a) ∧ ∀ q, q ≤ 40 → M3.1 116 q = nI (SS d n (fun _ => i) (Fq i q) T W) := fun M3 k3 s3 => ⟨k3.1.trans e2, k3.2.1.trans hV2, fun a ha => by rw [k3.2.2 a (by omega), ec a (by omega) (by omega)], fun q hq => by rw [s3 q hq, ez q hq]; exact Int32.zero_add _⟩
  by_cases c0 : T = 0
  · rw [if_pos (show nI T ≤ 0 from by rw [c0]; decide), b1, gx_bd_some]
    exact ⟨Ma, rfl, fin Ma (b2 0 (by omega)) (fun q hq => by dsimp only; rw [SS_end (Or.inl c0)]; exact b3 q hq)⟩
  rw [if_neg (show ¬ nI T ≤ 0 from nI_ge (b := T) (a := 0) (by omega) (by omega)), r_101_0, Option.bind_some, c_home h4, gx_bd_some, hV2]
  by_cases ch : W (32 + i) = W 0
  · rw [b2_t ch, if_neg (by decide), b1, gx_bd_some]
    exact ⟨Ma, rfl, fin Ma (b2 0 (by omega)) (fun q hq => by dsimp only; rw [SS_end (Or.inr ch)]; exact b3 q hq)⟩
  rw [b2_f ch, if_pos (show (0 : Int32) = 0 from rfl)]
  obtain ⟨m, rfl⟩ : ∃ m, T = m + 1 := ⟨T - 1, by omega⟩
  obtain ⟨M3, x1, x2, x3⟩ := c_spread (n := n) hd1 hd hi hT 8 m 0 M2 (by omega) (by omega) (by rw [hV2]; exact hok) (by rw [hV2]; exact ch) hD2 hP2
  have x1' : fX5_spreadOn 8 101 (nI i) 0 (nI (m + 1)) (lay M2) = some ((), lay M3) := x1
  rw [x1', gx_bd_some]
  rw [hV2] at x3
  exact ⟨M3, rfl, fin M3 x2 x3⟩
theorem c_rowsHome {M : mm} {l : Nat} (hl : l ≤ 40) (h0 : M.1 102 0 = nI l) : fX5_rowsHome 101 (lay M) = some (M.1 116 l, lay M) := by
  unfold fX5_rowsHome fX5_rowsHome_32
  rw [o_101, Option.bind_some, r_101_0, Option.bind_some, bi0 brd_102, Option.bind_some, h0, f10_within, gx_bd_some, b2_t ⟨show nI 0 ≤ nI l from nI_le (by omega) (by omega), show nI l ≤ nI 40 from nI_le (by omega) (by omega)⟩, if_neg (by decide), r_101_2, Option.bind_some, r_101_0, Option.bind_some, bi0 brd_102, Option.bind_some, h0, aI_lay 41 (show isA 116 0 41 = true by decide) (by decide) (show l < 41 by omega) (by decide), Option.bind_some]
theorem c_spreadQ {M : mm} (hd1 : 2 ≤ d) (hd : d ≤ 6) (hi : i < np) (hT : T ≤ 5) (h : okV (VC M.1 2) n np) (hD : M.1 2 1 = nI d) (hP : ∀ j, j < 5 → M.2.2 110 j = some (111 + j)) : ∃ (V : Nat → Int32) (M' : mm), fX5_spread 101 2 (nI i) (nI T) (lay M) = some ((), lay M') ∧ okV V n np ∧ eqv n np V (VC M.1 2) ∧ fr (fun a => 102 ≤ a ∧ a < 117) M M' ∧ M'.1 102 0 = M.1 2 0 ∧ ∀ q, q ≤ 40 → M'.1 116 q = nI (SS d n (fun _ => i) (Fq i q) T V) := by
  have h4 : i < 4 := Nat.lt_of_lt_of_le hi h.2.2.2.1
  obtain ⟨M1, a1, a2, a3, a4, a5, a6, a7, a8⟩ := c_out h
  have hb := (a3.2.2.2.2.2.2.2 i hi).1
  obtain ⟨p, hp, ep⟩ := bn_nI (x := VC M1.1 102 (32 + i)) (n := 40) ⟨hb.1, by have := hb.2; have := a3.2.2.2.2.1.2; omega⟩
  have eu : upd (VC M1.1 102) (32 + i) (nI p) = VC M1.1 102 := upd_self _ ep
  obtain ⟨M2, b1, b2, b3, b4, b5⟩ := c_spreadFrom (M := M1) (p := p) (n := n) (np := np) hd1 hd hi hT hp (by rw [eu]; exact a3) (by rw [a6]; exact hD) (by rw [a2.1]; exact hP)
  rw [eu] at b3 b5
  refine ⟨VC M1.1 102, M2, ?_, a3, a4, ⟨b2.trans a2.1, fun a ha => by rw [b4 a (by omega), a2.2 a (fun z => by unfold inB at z; omega)]⟩, ?_, b5⟩
  · unfold fX5_spread
    rw [o_101, Option.bind_some, r_101_0, Option.bind_some, a1, gx_bd_some, r_101_0, Option.bind_some, br9 brd_102, Option.bind_some, ba6 brd_102 h4, Option.bind_some, ← VC_6 M1.1 102 h4, ep, b1, gx_bd_some]
  · rw [← VC_0 M2.1 102 (by omega), b3, VC_0 _ _ (by omega)]; exact a5
end SP
