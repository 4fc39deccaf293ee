/-! the copy of a game, whole -/
theorem c_stcopy {s d : Nat} (h : isC s 6 = true) (h' : isC d 6 = true) (hne : s ≠ d) (M : mm) : ∃ M', fX8_copy d s (lay M) = some ((), lay M') ∧ fr (fun a => a = d) M M' ∧ ∀ t, t < 5 → M'.1 d t = M.1 s t := by
  unfold fX8_copy
  simp only [so h', si0 h, si1 h, si2 h, si3 h, si4 h, sp0 h', sp1 h', sp2 h', sp3 h', sp4 h', Option.bind_some]
  rw [sI_o hne, sI_o hne, sI_o hne, sI_o hne, sI_o hne, sI_o hne, sI_o hne, sI_o hne, sI_o hne, sI_o hne]
  refine ⟨_, rfl, (((((fr.rf (S := fun a => a = d) (M := M)).put rfl).put rfl).put rfl).put rfl).put rfl, fun t ht => ?_⟩
  rcases (show t = 0 ∨ t = 1 ∨ t = 2 ∨ t = 3 ∨ t = 4 by omega) with rfl | rfl | rfl | rfl | rfl
  · rw [sI_n (by omega), sI_n (by omega), sI_n (by omega), sI_n (by omega), sI_s]
  · rw [sI_n (by omega), sI_n (by omega), sI_n (by omega), sI_s]
  · rw [sI_n (by omega), sI_n (by omega), sI_s]
  · rw [sI_n (by omega), sI_s]
  · rw [sI_s]
def gam (g : Nat) : Prop := isC g 1 = true ∧ brd (g + 1) ∧ isC (g + 9) 3 = true ∧ isA (g + 10) 3 8 = true ∧ (∀ x, x < 8 → isC (g + (11 + x)) 6 = true) ∧ snb (g + 19) ∧ snb (g + 24)
theorem gam_1 : gam 1 := by unfold gam brd snb; decide
theorem gam_31 : gam 31 := by unfold gam brd snb; decide
theorem gam_60 : gam 60 := by unfold gam brd snb; decide
theorem gam.st {g x : Nat} (h : gam g) (h1 : 11 ≤ x) (h2 : x < 19) : isC (g + x) 6 = true := by
  have := h.2.2.2.2.1 (x - 11) (by omega)
  rwa [show 11 + (x - 11) = x by omega] at this
section GC
variable {g g' : Nat} {q q' : Nat → Nat}
def stp (M : mm) (g : Nat) (q : Nat → Nat) : Prop := ∀ j, j < 8 → M.2.2 (g + 10) j = some (g + q j) ∧ 11 ≤ q j ∧ q j < 19
theorem c_hcopy_l (hg : gam g) (hg' : gam g') (hd : g + 29 ≤ g' ∨ g' + 29 ≤ g) (hi : ∀ i j, i < 8 → j < 8 → q' i = q' j → i = j) : ∀ (m j F : Nat) (M : mm), stp M g q → stp M g' q' → j + m = 8 → m < F → ∃ M', fX3_copy_10 F (g' + 9) (g + 9) (nI j) (lay M) = some ((), lay M') ∧ fr (fun a => g' + 11 ≤ a ∧ a < g' + 19) M M' ∧ (∀ i, i < j → M'.1 (g' + q' i) = M.1 (g' + q' i)) ∧ ∀ i, j ≤ i → i < 8 → ∀ t, t < 5 → M'.1 (g' + q' i) t = M.1 (g + q i) t
  | m, j, 0, M, _, _, _, hF => by omega
  | 0, j, F + 1, M, _, _, hj, _ => by
    show ∃ M', bX3_copy_10 (fX3_copy_10 F) (g' + 9) (g + 9) (nI j) (lay M) = _ ∧ _
    unfold bX3_copy_10
    rw [if_pos (show (8 : Int32) ≤ nI j from nI_le (a := 8) (by omega) (by omega))]
    exact ⟨M, rfl, fr.rf, fun i _ => rfl, fun i h1 h2 => by omega⟩
  | m + 1, j, F + 1, M, hs, hs', hj, hF => by
    show ∃ M', bX3_copy_10 (fX3_copy_10 F) (g' + 9) (g + 9) (nI j) (lay M) = _ ∧ _
    unfold bX3_copy_10
    have hj8 : j < 8 := by omega
    rw [if_neg (show ¬ (8 : Int32) ≤ nI j from nI_ge (b := 8) (by omega) (by omega)), fR_lay (kd_3_1 hg'.2.2.1), Option.bind_some, show g' + 9 + 1 = g' + 10 by omega, aR_lay 8 hg'.2.2.2.1 (by decide) hj8 (by decide), (hs' j hj8).1, Option.bind_some, fR_lay (kd_3_1 hg.2.2.1), Option.bind_some, show g + 9 + 1 = g + 10 by omega, aR_lay 8 hg.2.2.2.1 (by decide) hj8 (by decide), (hs j hj8).1, Option.bind_some]
    obtain ⟨z1, z2⟩ := (hs j hj8).2
    obtain ⟨z3, z4⟩ := (hs' j hj8).2
    obtain ⟨M1, a1, a2, a3⟩ := c_stcopy (hg.st z1 z2) (hg'.st z3 z4) (by omega) M
    rw [a1, gx_bd_some, nI_1]
    obtain ⟨M', e1, e2, e3, e4⟩ := c_hcopy_l hg hg' hd hi m (j + 1) F M1 (by unfold stp; rw [a2.1]; exact hs) (by unfold stp; rw [a2.1]; exact hs') (by omega) (by omega)
    refine ⟨M', e1, (a2.mono (fun a z => by omega)).tr e2, fun i hlt => ?_, fun i h1 h2 t ht => ?_⟩
    · rw [e3 i (by omega), a2.2 _ (fun z => by have := hi i j (by omega) hj8 (by omega); omega)]
    · by_cases z : i = j
      · subst z
        rw [e3 i (by omega), a3 t ht]
      · rw [e4 i (by omega) h2 t ht, a2.2 _ (fun w => by have := (hs i h2).2; omega)]
theorem c_gcopy {M : mm} (hg : gam g) (hg' : gam g') (hd : g + 29 ≤ g' ∨ g' + 29 ≤ g) (hi : ∀ i j, i < 8 → j < 8 → q' i = q' j → i = j) (hs : stp M g q) (hs' : stp M g' q') : ∃ M', fX1_copy g' g (lay M) = some ((), lay M') ∧ fr (fun a => g' ≤ a ∧ a < g' + 29) M M' ∧ (∀ j, j < 40 → VC M'.1 (g' + 1) j = VC M.1 (g + 1) j) ∧ M'.1 (g' + 9) 0 = M.1 (g + 9) 0 ∧ (∀ i, i < 8 → ∀ t, t < 5 → M'.1 (g' + q' i) t = M.1 (g + q i) t) ∧ (M'.1 (g' + 19) 0 = M.1 (g + 19) 0 ∧ ∀ t i, 1 ≤ t → t ≤ 4 → i < 6 → M'.1 (g' + 19 + t) i = M.1 (g + 19 + t) i) ∧ (M'.1 (g' + 24) 0 = M.1 (g + 24) 0 ∧ ∀ t i, 1 ≤ t → t ≤ 4 → i < 6 → M'.1 (g' + 24 + t) i = M.1 (g + 24 + t) i) := by
  have r0 : ∀ M : mm, gx_fR (lay M) g 1 0 = some (g + 1) := fun M => fR_lay (kd_1_0 hg.1)
  have r1 : ∀ M : mm, gx_fR (lay M) g 1 1 = some (g + 9) := fun M => fR_lay (kd_1_1 hg.1)
  have r2 : ∀ M : mm, gx_fR (lay M) g 1 2 = some (g + 19) := fun M => fR_lay (kd_1_2 hg.1)
  have r3 : ∀ M : mm, gx_fR (lay M) g 1 3 = some (g + 24) := fun M => fR_lay (kd_1_3 hg.1)
  have s0 : ∀ M : mm, gx_fR (lay M) g' 1 0 = some (g' + 1) := fun M => fR_lay (kd_1_0 hg'.1)
  have s1 : ∀ M : mm, gx_fR (lay M) g' 1 1 = some (g' + 9) := fun M => fR_lay (kd_1_1 hg'.1)
  have s2 : ∀ M : mm, gx_fR (lay M) g' 1 2 = some (g' + 19) := fun M => fR_lay (kd_1_2 hg'.1)
  have s3 : ∀ M : mm, gx_fR (lay M) g' 1 3 = some (g' + 24) := fun M => fR_lay (kd_1_3 hg'.1)
  obtain ⟨M1, a1, a2, a3⟩ := c_bcopy hg.2.1 hg'.2.1 (by omega) M
  obtain ⟨M2, b1, b2, b3, b4⟩ := c_hcopy_l (q := q) hg hg' hd hi 8 0 gx_N (sI M1 (g' + 9) 0 (M1.1 (g + 9) 0)) (by unfold stp; rw [show (sI M1 (g' + 9) 0 (M1.1 (g + 9) 0)).2 = M1.2 from rfl, a2.1]; exact hs) (by unfold stp; rw [show (sI M1 (g' + 9) 0 (M1.1 (g + 9) 0)).2 = M1.2 from rfl, a2.1]; exact hs') (by omega) (by unfold gx_N; omega)
  obtain ⟨M3, c1, c2, c3, c4⟩ := c_scopy hg.2.2.2.2.2.1 hg'.2.2.2.2.2.1 (by omega) M2
  obtain ⟨M4, d1, d2, d3, d4⟩ := c_scopy hg.2.2.2.2.2.2 hg'.2.2.2.2.2.2 (by omega) M3
  have f1 : ∀ c, ¬ (g' + 1 ≤ c ∧ c < g' + 9) → M1.1 c = M.1 c := fun c hc => a2.2 c (fun z => by unfold inB at z; omega)
  have f2 : ∀ c, ¬ (g' + 1 ≤ c ∧ c < g' + 19) → M2.1 c = M.1 c := fun c hc => by rw [b2.2 c (by omega), sI_o (by omega), f1 c (by omega)]
  have f3 : ∀ c, ¬ (g' + 1 ≤ c ∧ c < g' + 24) → M3.1 c = M.1 c := fun c hc => by rw [c2.2 c (fun z => by unfold inS at z; omega), f2 c (by omega)]
  have k3 : ∀ c, ¬ (g' + 19 ≤ c ∧ c < g' + 29) → M4.1 c = M2.1 c := fun c hc => by rw [d2.2 c (fun z => by unfold inS at z; omega), c2.2 c (fun z => by unfold inS at z; omega)]
  refine ⟨M4, ?_, ⟨?_, fun c hc => ?_⟩, fun j hj => ?_, ?_, fun i h8 t ht => ?_, ⟨?_, fun t i h1 h2 h3 => ?_⟩, ⟨?_, fun t i h1 h2 h3 => ?_⟩⟩
  · unfold fX1_copy fX3_copy
    rw [isO_lay hg'.1 (by decide), Option.bind_some, s0, Option.bind_some, r0, Option.bind_some, a1, gx_bd_some, s1, Option.bind_some, r1, Option.bind_some, isO_lay hg'.2.2.1 (by decide), Option.bind_some, fI_lay (kd_3_0 hg.2.2.1), Option.bind_some, pI_lay (kd_3_0 hg'.2.2.1), Option.bind_some]
    have b1' : fX3_copy_10 gx_N (g' + 9) (g + 9) 0 (lay (sI M1 (g' + 9) 0 (M1.1 (g + 9) 0))) = some ((), lay M2) := b1
    rw [b1', gx_bd_some, s2, Option.bind_some, r2, Option.bind_some, c1, gx_bd_some, s3, Option.bind_some, r3, Option.bind_some, d1, gx_bd_some]
  · rw [d2.1, c2.1, b2.1]; exact a2.1
  · rw [d2.2 c (fun z => by unfold inS at z; omega), f3 c (by omega)]
  · have e : VC M4.1 (g' + 1) = VC M1.1 (g' + 1) := VC_eq (fun a z1 z2 => by rw [k3 a (by omega), b2.2 a (by omega), sI_o (by omega)])
    rw [e]; exact a3 j hj
  · rw [k3 _ (by omega), b2.2 _ (by omega), sI_s, f1 _ (by omega)]
  · have := (hs' i h8).2
    have z2 := (hs i h8).2
    rw [k3 _ (by omega), b4 i (by omega) h8 t ht, sI_o (by omega), f1 _ (by omega)]
  · rw [d2.2 _ (fun z => by unfold inS at z; omega), c3, f2 _ (by omega)]
  · rw [d2.2 _ (fun z => by unfold inS at z; omega), c4 t i h1 h2 h3, f2 _ (by omega)]
  · rw [d3, f3 _ (by omega)]
  · rw [d4 t i h1 h2 h3, f3 _ (by omega)]
end GC
theorem okV_eq {V V' : Nat → Int32} {n np : Nat} (h : okV V n np) (e : ∀ j, j < 40 → V' j = V j) : okV V' n np := by
  obtain ⟨a1, a2, a3, a4, a5, a6, a7, a8⟩ := h
  refine ⟨by rw [e _ (by omega)]; exact a1, a2, by rw [e _ (by omega)]; exact a3, a4, by rw [e _ (by omega)]; exact a5, by rw [e _ (by omega)]; exact a6, fun k hk => ?_, fun i hi => ?_⟩
  · rw [e _ (by omega), e _ (by omega), e _ (by omega)]; exact a7 k hk
  · rw [e _ (by omega), e _ (by omega), e _ (by omega)]; exact a8 i hi
theorem tb_eq {V V' : Nat → Int32} {pl : Nat} {sq th us : Int32} {lk : Option Nat} (e : ∀ j, j < 40 → V' j = V j) : ∀ j, j < 40 → tb V' pl sq th lk us j = tb V pl sq th lk us j := by
  intro j hj
  unfold tb upd
  cases lk with
  | none => dsimp only; rw [e j hj]
  | some k => dsimp only; rw [e j hj]
theorem chain_copy {F F' : Nat → Nat → Int32} {w w' : Nat → Int32} {n np : Nat} (hn : n ≤ 6) (hp : np ≤ 4) : ∀ (hs : Nat) (V V' : Nat → Int32), hs ≤ 8 → (∀ j, j < hs → ∀ t, t < 5 → F' j t = F j t) → (∀ i, i < 203 → w' i = w i) → (∀ j, j < 40 → V' j = V j) → chain F w n np hs V → chain F' w' n np hs V'
  | 0, V, V', _, _, _, _, _ => trivial
  | j + 1, V, V', h8, hF, hw, hV, h => by
    obtain ⟨a1, a2, a3, a4⟩ := h
    have e : ∀ i, i < 40 → tbS (F' j) V' i = tbS (F j) V i := by
      intro i hi
      unfold tbS
      rw [hF j (by omega) 0 (by omega), hF j (by omega) 1 (by omega), hF j (by omega) 2 (by omega), hF j (by omega) 3 (by omega), hF j (by omega) 4 (by omega)]
      exact tb_eq hV i hi
    refine ⟨?_, okV_eq a2 e, ⟨fun i hi => ?_, fun k hk => ?_⟩, chain_copy hn hp j _ _ (by omega) (fun i hi => hF i (by omega)) hw e a4⟩
    · obtain ⟨pl, lk, l1, l2, l3, l4⟩ := a1
      exact ⟨pl, lk, l1, l2, by rw [hF j (by omega) 0 (by omega)]; exact l3, by rw [hF j (by omega) 3 (by omega)]; exact l4⟩
    · rw [hw _ (by omega), hw _ (by omega), e _ (by omega), e _ (by omega)]; exact a3.1 i hi
    · rw [hw _ (by omega), e _ (by omega)]; exact a3.2 k hk
theorem seenR.copy {G G' : Nat → Nat → Int32} {s p : Nat} {w w' : Nat → Int32} (h : seenR G s w p) (h0 : G' s 0 = G s 0) (hG : ∀ t i, 1 ≤ t → t ≤ 4 → i < 6 → G' (s + t) i = G (s + t) i) (hw : ∀ j, p ≤ j → j < p + 25 → w' j = w j) : seenR G' s w' p := by
  obtain ⟨m, m1, m2, m3, m4, m5⟩ := h
  refine ⟨m, m1, by rw [h0]; exact m2, by rw [hw p (by omega) (by omega)]; exact m3, fun e he => ?_, fun e he => by rw [hG 3 e (by omega) (by omega) (by omega)]; exact m5 e he⟩
  rw [hG 1 e (by omega) (by omega) (by omega), hG 2 e (by omega) (by omega) (by omega), hG 3 e (by omega) (by omega) (by omega), hG 4 e (by omega) (by omega) (by omega), hw _ (by omega) (by omega), hw _ (by omega) (by omega), hw _ (by omega) (by omega), hw _ (by omega) (by omega)]
  exact m4 e he
/-- the copied game is a game -/
theorem RG_copy {M M' : mm} {g g' r r' : Nat} {q' : Nat → Nat} (h : RG M g r) (hs' : stp M' g' q') (hi : ∀ i j, i < 8 → j < 8 → q' i = q' j → i = j) (hV : ∀ j, j < 40 → VC M'.1 (g' + 1) j = VC M.1 (g + 1) j) (h9 : M'.1 (g' + 9) 0 = M.1 (g + 9) 0) (hst : ∀ q, stp M g q → ∀ i, i < 8 → ∀ t, t < 5 → M'.1 (g' + q' i) t = M.1 (g + q i) t)
    (hn : M'.1 (g' + 19) 0 = M.1 (g + 19) 0 ∧ ∀ t i, 1 ≤ t → t ≤ 4 → i < 6 → M'.1 (g' + 19 + t) i = M.1 (g + 19 + t) i) (hm : M'.1 (g' + 24) 0 = M.1 (g + 24) 0 ∧ ∀ t i, 1 ≤ t → t ≤ 4 → i < 6 → M'.1 (g' + 24 + t) i = M.1 (g + 24 + t) i) (hw : ∀ i, i < 203 → M'.1 123 (r' + i) = M.1 123 (r + i)) : RG M' g' r' := by
  obtain ⟨n, np, hs, q, a1, a2, a3, a4, a5, a6, a7, a8, a9, a10⟩ := RG_iff.mp h
  rw [VC_g] at a1 a2 a10
  have hn6 := a1.2.1
  have hp4 := a1.2.2.2.1
  refine RG_iff.mpr ⟨n, np, hs, q', ?_, ?_, ?_, ?_, a5, ?_, ?_, hs', hi, ?_⟩
  · rw [VC_g]; exact okV_eq a1 hV
  · rw [VC_g]
    refine eqv_iff.mpr (fun j hj => ?_)
    have : j < 40 := by unfold rel at hj; omega
    rw [hV j this, eqv_iff.mp a2 j hj]
    exact (hw j (by omega)).symm
  · exact a3.copy hn.1 (fun t i h1 h2 h3 => by have := hn.2 t i h1 h2 h3; rwa [Nat.add_assoc, Nat.add_assoc] at this) (fun j h1 h2 => hw j (by omega))
  · exact a4.copy hm.1 (fun t i h1 h2 h3 => by have := hm.2 t i h1 h2 h3; rwa [Nat.add_assoc, Nat.add_assoc] at this) (fun j h1 h2 => hw j (by omega))
  · exact h9.trans a6
  · exact (hw 90 (by omega)).trans a7
  · rw [VC_g]
    exact chain_copy hn6 hp4 hs _ _ a5 (fun j hj t ht => hst q a8 j (by omega) t ht) (fun i hi => hw i hi) hV a10
theorem r_copy_l {a c : Nat} (ha : a + 203 ≤ 852) (hc : c + 203 ≤ 852) (hd : a + 203 ≤ c ∨ c + 203 ≤ a) : ∀ (m j F : Nat) (M : mm), j + m = 203 → m < F → ∃ M', fX11_copy_2 F 122 (nI a) (nI c) (nI j) (lay M) = some ((), lay M') ∧ frS (fun x => c + j ≤ x ∧ x < c + 203) M M' ∧ ∀ i, j ≤ i → i < 203 → M'.1 123 (c + i) = M.1 123 (a + i)
  | m, j, 0, M, _, hF => by omega
  | 0, j, F + 1, M, hj, _ => by
    show ∃ M', bX11_copy_2 (fX11_copy_2 F) 122 (nI a) (nI c) (nI j) (lay M) = _ ∧ _
    unfold bX11_copy_2
    rw [if_pos (show (203 : Int32) ≤ nI j from nI_le (a := 203) (by omega) (by omega))]
    exact ⟨M, rfl, frS.rf, fun i h1 h2 => by omega⟩
  | m + 1, j, F + 1, M, hj, hF => by
    show ∃ M', bX11_copy_2 (fX11_copy_2 F) 122 (nI a) (nI c) (nI j) (lay M) = _ ∧ _
    unfold bX11_copy_2
    rw [if_neg (show ¬ (203 : Int32) ≤ nI j from nI_ge (b := 203) (by omega) (by omega))]
    simp only [r_122_0, Option.bind_some, nI_add, nIl, ra (show a + j < 852 by omega), rs (show c + j < 852 by omega)]
    obtain ⟨M', e1, e2, e3⟩ := r_copy_l ha hc hd m (j + 1) F (sI M 123 (c + j) (M.1 123 (a + j))) (by omega) (by omega)
    refine ⟨M', e1, ((frS.rf (M := M)).put (j := c + j) ⟨by omega, by omega⟩).tr (e2.mono (fun x q => by omega)), fun i h1 h2 => ?_⟩
    by_cases q : i = j
    · subst q; rw [e2.2.2 (c + i) (by omega), sI_s]
    · rw [e3 i (by omega) h2, sI_n (by omega)]
theorem r_copy {a c : Nat} (ha : a + 203 ≤ 852) (hc : c + 203 ≤ 852) (hd : a + 203 ≤ c ∨ c + 203 ≤ a) (M : mm) : ∃ M', fX11_copy 122 (nI a) (nI c) (lay M) = some ((), lay M') ∧ frW c (c + 203) M M' ∧ ∀ i, i < 203 → M'.1 123 (c + i) = M.1 123 (a + i) := by
  unfold fX11_copy
  rw [o_122, Option.bind_some]
  obtain ⟨M', e1, e2, e3⟩ := r_copy_l ha hc hd 203 0 gx_N M (by omega) (by unfold gx_N; omega)
  exact ⟨M', e1, e2.W, fun i hi => e3 i (by omega) hi⟩
