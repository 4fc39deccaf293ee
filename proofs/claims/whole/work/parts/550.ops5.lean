/-- where only notes and marks change -/
theorem Inv.seen {M M2 : mm} (h : Inv M) (hn : seenR (fun a => M2.1 (1 + a)) 19 (VR M2.1 0) 40) (hm : seenR (fun a => M2.1 (1 + a)) 24 (VR M2.1 0) 65) (h2 : M2.2 = M.2) (hc : ∀ a, a < 20 ∨ 30 ≤ a → a ≠ 123 → M2.1 a = M.1 a) (hw : ∀ j, j < 40 ∨ (90 ≤ j ∧ j < 609) → M2.1 123 j = M.1 123 j) : Inv M2 := by
  obtain ⟨n, np, hs, q, a1, a2, a3, a4, a5, a6, a7, a8, a9, a10⟩ := h.gm
  have eV : VC M2.1 2 = VC M.1 2 := VC_eq (fun a h1 h2 => hc a (by omega) (by omega))
  have hn6 := a1.2.1
  have hp4 := a1.2.2.2.1
  refine h.game2 (n := n) (np := np) (hs := hs) (q := q) ⟨by rw [eV]; exact a1, ?_, hn, hm, a5, by rw [hc 10 (by omega) (by omega)]; exact a6, by rw [hw 90 (by omega)]; exact a7, by rw [h2]; exact a8, a9, ?_⟩ (fun a _ => by rw [h2]) (by rw [h2]) (fun a q1 q2 => hc a (by omega) q2) (hc 0 (by omega) (by omega)) (fun j q1 q2 => hw j (by omega))
  · rw [eV]
    refine eqv_iff.mpr (fun j hj => ?_)
    rw [eqv_iff.mp a2 j hj, VR0, VR0, hw j (by unfold rel at hj; omega)]
  · rw [eV]
    have hF : ∀ j, j < hs → M.1 (1 + q j) = M2.1 (1 + q j) := fun j hj => (hc _ (by have := a8 j (by omega); omega) (by have := a8 j (by omega); omega)).symm
    clear hn hm a3 a4
    have key : ∀ (t : Nat) (V : Nat → Int32), t ≤ hs → chain (fun j => M.1 (1 + q j)) (VR M.1 0) n np t V → chain (fun j => M2.1 (1 + q j)) (VR M2.1 0) n np t V := by
      intro t
      induction t with
      | zero => intro V _ _; trivial
      | succ t ih =>
        intro V ht hch
        obtain ⟨b1, b2, b3, b4⟩ := hch
        have e := hF t (by omega)
        dsimp only at b1 b2 b3 b4
        rw [e] at b1 b2 b3 b4
        refine ⟨b1, b2, ⟨fun i hi => ?_, fun k hk => ?_⟩, ih _ (by omega) b4⟩
        · rw [VR0, VR0, hw _ (by omega), hw _ (by omega), ← VR0 M.1, ← VR0 M.1]; exact b3.1 i hi
        · rw [VR0, hw _ (by omega), ← VR0 M.1]; exact b3.2 k hk
    exact key hs _ (Nat.le_refl _) a10
theorem op_forget (a : Int32) : Op (fX10_forget 0 a) (fX11_forget 122 a) := by
  intro M h
  obtain ⟨n, np, hs, q, g⟩ := h.gm
  obtain ⟨mn, n1, n2, n3, n4⟩ := g.2.2.1
  obtain ⟨mk, k1, k2, k3, k4⟩ := g.2.2.2.1
  rw [VR0] at n3 k3
  unfold fX10_forget fX11_forget fX10_forget_43 fX11_forget_28 fX7_empty
  simp only [o_0, o_122, r_0_0, r_1_2, r_1_3, r_122_0, o_20, o_25, i_20_0, i_25_0, pi_20_0, pi_25_0, Option.bind_some, f10_within, f11_in, gx_bd_some, f10_bad, f11_bad', show (0 : Int64) = (0 : Int32).toInt64 from rfl, show (1 : Int64) = (1 : Int32).toInt64 from rfl, b_le]
  by_cases c : 0 ≤ a ∧ a ≤ 1
  case neg =>
    rw [b2_f c, if_pos rfl]
    exact ⟨_, badC M, badR (badC M), rfl, by rw [if_pos rfl], h.bad⟩
  rw [b2_t c, if_neg (by decide)]
  obtain ⟨t, _, ht, rfl⟩ := in_n (a := 0) (b := 1) (by omega) c (by omega)
  rcases (show t = 0 ∨ t = 1 by omega) with rfl | rfl
  · rw [if_pos (show nI 0 = 0 from rfl)]
    refine ⟨_, sI M 20 0 0, sI (sI M 20 0 0) 123 40 0, rfl, ?_, ?_⟩
    · rw [if_neg (by decide), if_pos (show nI 0 = 0 from rfl), show (40 : Int32) = nI 40 from rfl, ra (by omega)]
      simp only [r_122_0, Option.bind_some]
      rw [rs (by omega), Option.bind_some, sI_o (by omega), n3, ← n2]
    · refine h.seen ⟨0, by omega, ?_, ?_, fun e he => by omega, fun e he => by omega⟩ ?_ rfl (fun a h1 h2 => by rw [sI_o h2, sI_o (by omega)]) (fun j hj => by rw [sI_n (by omega), sI_o (by omega)])
      · show (sI (sI M 20 0 0) 123 40 0).1 20 0 = _; rw [sI_o (by omega), sI_s]; rfl
      · rw [VR0, sI_s]; rfl
      · exact g.2.2.2.1.eq (fun a h1 h2 => by rw [sI_o (by omega), sI_o (by omega)]) (fun j h1 h2 => by rw [VR0, VR0, sI_n (by omega), sI_o (by omega)])
  · rw [if_neg (show ¬ nI 1 = 0 by decide)]
    refine ⟨_, sI M 25 0 0, sI (sI M 25 0 0) 123 65 0, rfl, ?_, ?_⟩
    · rw [if_neg (by decide), if_neg (show ¬ nI 1 = 0 by decide), show (65 : Int32) = nI 65 from rfl, ra (by omega)]
      simp only [r_122_0, Option.bind_some]
      rw [rs (by omega), Option.bind_some, sI_o (by omega), k3, ← k2]
    · refine h.seen ?_ ⟨0, by omega, ?_, ?_, fun e he => by omega, fun e he => by omega⟩ rfl (fun a h1 h2 => by rw [sI_o h2, sI_o (by omega)]) (fun j hj => by rw [sI_n (by omega), sI_o (by omega)])
      · exact g.2.2.1.eq (fun a h1 h2 => by rw [sI_o (by omega), sI_o (by omega)]) (fun j h1 h2 => by rw [VR0, VR0, sI_n (by omega), sI_o (by omega)])
      · show (sI (sI M 25 0 0) 123 65 0).1 25 0 = _; rw [sI_o (by omega), sI_s]; rfl
      · rw [VR0, sI_s]; rfl
/-- one more note, or mark -/
theorem c_add {M : mm} {s m : Nat} (h5 : isC s 5 = true) (a1 : isA (s + 1) 0 6 = true) (a2 : isA (s + 2) 0 6 = true) (a3 : isA (s + 3) 0 6 = true) (a4 : isA (s + 4) 0 6 = true) (hm : M.1 s 0 = nI m) (h6 : m < 6) (w x y z : Int32) : fX7_add s w x y z (lay M) = some (nI (m + 1), lay (sI (sI (sI (sI (sI M (s + 1) m w) (s + 2) m x) (s + 3) m y) (s + 4) m z) s 0 (nI (m + 1)))) := by
  unfold fX7_add fX7_add_60
  have i5 : ∀ M : mm, gx_fI (lay M) s 5 0 = some (M.1 s 0) := fun M => fI_lay (kd_5_0 h5)
  have p5 : ∀ (M : mm) (x : Int32), gx_pF (lay M) s 5 0 (.int x) = some (lay (sI M s 0 x)) := fun M x => pI_lay (kd_5_0 h5)
  have q1 : ∀ M : mm, gx_fR (lay M) s 5 1 = some (s + 1) := fun M => fR_lay (kd_5_1 h5)
  have q2 : ∀ M : mm, gx_fR (lay M) s 5 2 = some (s + 2) := fun M => fR_lay (kd_5_2 h5)
  have q3 : ∀ M : mm, gx_fR (lay M) s 5 3 = some (s + 3) := fun M => fR_lay (kd_5_3 h5)
  have q4 : ∀ M : mm, gx_fR (lay M) s 5 4 = some (s + 4) := fun M => fR_lay (kd_5_4 h5)
  simp only [isO_lay h5 (by decide), i5, q1, q2, q3, q4, Option.bind_some, hm]
  rw [if_neg (show ¬ (6 : Int32) ≤ nI m from nI_ge (b := 6) h6 (by omega)), sI_lay 6 a1 (by decide) h6 (by decide)]
  simp only [i5, q2, Option.bind_some]
  rw [sI_o (show s ≠ s + 1 by omega), hm, sI_lay 6 a2 (by decide) h6 (by decide)]
  simp only [i5, q3, Option.bind_some]
  rw [sI_o (show s ≠ s + 2 by omega), sI_o (show s ≠ s + 1 by omega), hm, sI_lay 6 a3 (by decide) h6 (by decide)]
  simp only [i5, q4, Option.bind_some]
  rw [sI_o (show s ≠ s + 3 by omega), sI_o (show s ≠ s + 2 by omega), sI_o (show s ≠ s + 1 by omega), hm, sI_lay 6 a4 (by decide) h6 (by decide)]
  simp only [i5, p5, Option.bind_some]
  rw [sI_s, sI_o (show s ≠ s + 4 by omega), sI_o (show s ≠ s + 3 by omega), sI_o (show s ≠ s + 2 by omega), sI_o (show s ≠ s + 1 by omega), hm, nI_1]
theorem r_keeps {M : mm} {t : Nat} (ht : t + 3 < 852) (w x y z : Int32) : fX11_keeps 122 (nI t) w x y z (lay M) = some ((), lay (sI (sI (sI (sI M 123 t w) 123 (t + 1) x) 123 (t + 2) y) 123 (t + 3) z)) := by
  unfold fX11_keeps
  simp only [o_122, r_122_0, Option.bind_some, nIl, rs (show t < 852 by omega), rs (show t + 1 < 852 by omega), rs (show t + 2 < 852 by omega), rs (show t + 3 < 852 by omega)]
/-- the two sides' new rows -/
theorem seenR.add {M : mm} {s p m : Nat} (hs : s + 4 < 122) (hp : p + 24 < 852) (h : seenR (fun a => M.1 (1 + a)) s (VR M.1 0) p) (hm : M.1 (1 + s) 0 = nI m) (h6 : m < 6) (w x y z : Int32) (hy : bn y 1 6) {M2 : mm}
    (e0 : M2.1 = up2 (up2 (up2 (up2 (up2 (up2 (up2 (up2 (up2 (up2 M.1 (1 + s + 1) m w) (1 + s + 2) m x) (1 + s + 3) m y) (1 + s + 4) m z) (1 + s) 0 (nI (m + 1))) 123 (p + 1 + 4 * m) w) 123 (p + 1 + 4 * m + 1) x) 123 (p + 1 + 4 * m + 2) y) 123 (p + 1 + 4 * m + 3) z) 123 p (nI (m + 1))) : seenR (fun a => M2.1 (1 + a)) s (VR M2.1 0) p := by
  obtain ⟨m', m1, m2, m3, m4, m5⟩ := h
  have em : m' = m := by
    have : nI m' = nI m := m2.symm.trans hm
    exact (nI_eq (by omega) (by omega)).mp this
  subst em
  have ew : ∀ j, M2.1 123 j = if j = p then nI (m' + 1) else if j = p + 1 + 4 * m' + 3 then z else if j = p + 1 + 4 * m' + 2 then y else if j = p + 1 + 4 * m' + 1 then x else if j = p + 1 + 4 * m' then w else M.1 123 j := by
    intro j
    rw [e0]
    simp only [up2]
    have : ¬ 123 = 1 + s ∧ ¬ 123 = 1 + s + 1 ∧ ¬ 123 = 1 + s + 2 ∧ ¬ 123 = 1 + s + 3 ∧ ¬ 123 = 1 + s + 4 := by omega
    simp only [this, false_and, if_false, true_and]
  have ec : ∀ t j, t < 5 → M2.1 (1 + (s + t)) j = if t = 0 ∧ j = 0 then nI (m' + 1) else if t = 4 ∧ j = m' then z else if t = 3 ∧ j = m' then y else if t = 2 ∧ j = m' then x else if t = 1 ∧ j = m' then w else M.1 (1 + (s + t)) j := by
    intro t j ht
    rw [e0]
    simp only [up2]
    have a0 : ¬ 1 + (s + t) = 123 := by omega
    have a1 : (1 + (s + t) = 1 + s) = (t = 0) := by simp only [eq_iff_iff]; omega
    have a2 : (1 + (s + t) = 1 + s + 1) = (t = 1) := by simp only [eq_iff_iff]; omega
    have a3 : (1 + (s + t) = 1 + s + 2) = (t = 2) := by simp only [eq_iff_iff]; omega
    have a4 : (1 + (s + t) = 1 + s + 3) = (t = 3) := by simp only [eq_iff_iff]; omega
    have a5 : (1 + (s + t) = 1 + s + 4) = (t = 4) := by simp only [eq_iff_iff]; omega
    simp only [a0, a1, a2, a3, a4, a5, false_and, if_false]
  refine ⟨m' + 1, by omega, ?_, ?_, fun e he => ?_, fun e he => ?_⟩
  rotate_right
  · show bn (M2.1 (1 + (s + 3)) e) 1 6
    have c3 := ec 3 e (by omega)
    by_cases q : e = m'
    · rw [if_neg (by omega), if_neg (by omega), if_pos (by omega)] at c3
      rw [c3]; exact hy
    · rw [if_neg (by omega), if_neg (by omega), if_neg (by omega), if_neg (by omega), if_neg (by omega)] at c3
      rw [c3]; exact m5 e (by omega)
  · have := ec 0 0 (by omega)
    rw [if_pos ⟨rfl, rfl⟩] at this
    exact this
  · rw [VR0, ew, if_pos rfl]
  · rw [VR0, VR0, VR0, VR0, ew, ew, ew, ew]
    have c1 := ec 1 e (by omega)
    have c2 := ec 2 e (by omega)
    have c3 := ec 3 e (by omega)
    have c4 := ec 4 e (by omega)
    show M2.1 (1 + (s + 1)) e = _ ∧ M2.1 (1 + (s + 2)) e = _ ∧ M2.1 (1 + (s + 3)) e = _ ∧ M2.1 (1 + (s + 4)) e = _
    rw [c1, c2, c3, c4]
    by_cases q : e = m'
    · subst q
      have n1 : ¬ (p + 1 + 4 * e = p) := by omega
      have n2 : ¬ (p + 1 + 4 * e = p + 1 + 4 * e + 3) := by omega
      have n3 : ¬ (p + 1 + 4 * e = p + 1 + 4 * e + 2) := by omega
      have n4 : ¬ (p + 1 + 4 * e = p + 1 + 4 * e + 1) := by omega
      refine ⟨?_, ?_, ?_, ?_⟩
      · rw [if_neg (by omega), if_neg (by omega), if_neg (by omega), if_neg (by omega), if_pos (by omega), if_neg n1, if_neg n2, if_neg n3, if_neg n4, if_pos rfl]
      · rw [if_neg (by omega), if_neg (by omega), if_neg (by omega), if_pos (by omega), if_neg (by omega), if_neg (by omega), if_neg (by omega), if_pos (by omega)]
      · rw [if_neg (by omega), if_neg (by omega), if_pos (by omega), if_neg (by omega), if_neg (by omega), if_pos (by omega)]
      · rw [if_neg (by omega), if_pos (by omega), if_neg (by omega), if_pos (by omega)]
    · have hlt : e < m' := by omega
      refine ⟨?_, ?_, ?_, ?_⟩
      · rw [if_neg (by omega), if_neg (by omega), if_neg (by omega), if_neg (by omega), if_neg (by omega), if_neg (by omega), if_neg (by omega), if_neg (by omega), if_neg (by omega), if_neg (by omega), ← VR0 M.1]; exact (m4 e hlt).1
      · rw [if_neg (by omega), if_neg (by omega), if_neg (by omega), if_neg (by omega), if_neg (by omega), if_neg (by omega), if_neg (by omega), if_neg (by omega), if_neg (by omega), if_neg (by omega), ← VR0 M.1]; exact (m4 e hlt).2.1
      · rw [if_neg (by omega), if_neg (by omega), if_neg (by omega), if_neg (by omega), if_neg (by omega), if_neg (by omega), if_neg (by omega), if_neg (by omega), if_neg (by omega), if_neg (by omega), ← VR0 M.1]; exact (m4 e hlt).2.2.1
      · rw [if_neg (by omega), if_neg (by omega), if_neg (by omega), if_neg (by omega), if_neg (by omega), if_neg (by omega), if_neg (by omega), if_neg (by omega), if_neg (by omega), if_neg (by omega), ← VR0 M.1]; exact (m4 e hlt).2.2.2
