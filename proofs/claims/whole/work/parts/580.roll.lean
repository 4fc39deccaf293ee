/-! rolls, sets, undo, goes -/
theorem lk_dec {lk : Option Nat} (h : ∀ k, lk = some k → k < 6) : (if lkI lk = -1 then none else some (lkI lk).toNatClampNeg) = lk := by
  cases lk with
  | none => rfl
  | some k =>
    have := h k rfl
    rw [show lkI (some k) = nI k from rfl, if_neg (lkI_some (by omega)), nI_clamp (by omega)]
theorem Inv.push {M M2 : mm} (h : Inv M) {n np hs : Nat} {q : Nat → Nat} (g : GM M n np hs q) {o h1 : Nat} {q' : Nat → Nat} (hh : hs = h1 + o) (h8 : h1 < 8)
    (hok : okV (VC M2.1 2) n np) (he : eqv n np (VC M2.1 2) (VR M2.1 0)) (hst : stOK (M2.1 (1 + q' h1)) n np) (htb : tbS (M2.1 (1 + q' h1)) (VC M2.1 2) = VC M.1 2)
    (h10 : M2.1 10 0 = nI (h1 + 1)) (h90 : M2.1 123 90 = nI (h1 + 1)) (hq' : ∀ j, j < 8 → M2.2.2 11 j = some (1 + q' j) ∧ 11 ≤ q' j ∧ q' j < 19) (hinj : ∀ i j, i < 8 → j < 8 → q' i = q' j → i = j) (hqq : ∀ j, j < h1 → q' j = q (j + o))
    (hp : ∀ a, a ≠ 11 → M2.2.2 a = M.2.2 a) (hj : M2.2.1 = M.2.1) (hc : ∀ a, a < 2 ∨ 10 < a → a ≠ 123 → a ≠ 1 + q' h1 → M2.1 a = M.1 a)
    (hw1 : ∀ j, (40 ≤ j ∧ j < 90) ∨ (203 ≤ j ∧ j < 609) → M2.1 123 j = M.1 123 j)
    (hs1 : ∀ j, j < 4 → M2.1 123 (91 + 14 * h1 + j) = M.1 123 (32 + j) ∧ M2.1 123 (91 + 14 * h1 + 4 + j) = M.1 123 (36 + j)) (hs2 : ∀ k, k < 6 → M2.1 123 (91 + 14 * h1 + 8 + k) = M.1 123 (22 + k))
    (hs3 : ∀ i, i < 14 * h1 → M2.1 123 (91 + i) = M.1 123 (91 + i + 14 * o)) : Inv M2 := by
  obtain ⟨a1, a2, a3, a4, a5, a6, a7, a8, a9, a10⟩ := g
  have hs8 := hq' h1 h8
  have hn6 := a1.2.1
  have hp4 := a1.2.2.2.1
  refine h.game2 (n := n) (np := np) (hs := h1 + 1) (q := q') ⟨hok, he, a3.eq (fun a z1 z2 => hc _ (by omega) (by omega) (by omega)) (fun j z1 z2 => by rw [VR0, VR0]; exact hw1 j (by omega)), a4.eq (fun a z1 z2 => hc _ (by omega) (by omega) (by omega)) (fun j z1 z2 => by rw [VR0, VR0]; exact hw1 j (by omega)), by omega, h10, h90, hq', hinj, hst, ?_, ⟨fun i hi => ?_, fun k hk => ?_⟩, ?_⟩ hp hj (fun a z1 z2 => hc a (by omega) z2 (by omega)) (hc 0 (by omega) (by omega) (by omega)) (fun j z1 z2 => hw1 j (by omega))
  · show okV (tbS (M2.1 (1 + q' h1)) _) n np
    rw [htb]; exact a1
  · show _ = tbS (M2.1 (1 + q' h1)) _ _ ∧ _ = tbS (M2.1 (1 + q' h1)) _ _
    rw [htb, VR0, VR0, (hs1 i (by omega)).1, (hs1 i (by omega)).2, (a2.2.2.2.2.2 i hi).2.1, (a2.2.2.2.2.2 i hi).2.2, VR0, VR0]
    exact ⟨rfl, rfl⟩
  · show _ = tbS (M2.1 (1 + q' h1)) _ _
    rw [htb, VR0, hs2 k (by omega), (a2.2.2.2.2.1 k hk).2.2.2, VR0]
  · show chain _ _ n np h1 (tbS (M2.1 (1 + q' h1)) _)
    rw [htb]
    rw [hh] at a10
    refine chain_move hn6 hp4 h1 _ (fun j hj' => ?_) (fun i hi => ?_) a10
    · rw [hqq j hj', hc (1 + q (j + o)) (by have := a8 (j + o) (by omega); omega) (by have := a8 (j + o) (by omega); omega) (fun z => by have := hinj j h1 (by omega) h8 (by rw [hqq j hj']; omega); omega)]
    · rw [VR0, VR0, hs3 i hi]
theorem fr_of {M M' : mm} {s : Nat} (h : fr (fun a => a = s) M M') : fr (inBS 2 s) M M' := h.mono (fun a z => Or.inr z)
/-- whether a player is at home: the two sides' answers are one -/
theorem GM.home {M : mm} {n np hs : Nat} {q : Nat → Nat} (g : GM M n np hs q) {i : Nat} (hi : i < np) : (VR M.1 0 (32 + i) = VR M.1 0 0) ↔ (M.1 (2 + 6) i = M.1 2 0) := by
  have := g.np6
  rw [← (g.2.1.2.2.2.2.2 i hi).2.1, ← g.2.1.1, VC_6 _ _ (by omega), VC_0 _ _ (by omega)]
theorem op_rolls (a b : Int32) : Op (fX10_rolls 0 a b) (fX11_rolls 122 a b) := by
  intro M h
  obtain ⟨n, np, hs, q, g⟩ := h.gm
  have hn6 := g.n6
  have hp4 := g.np6
  unfold fX10_rolls fX11_rolls fX10_rolls_26 fX11_rolls_16
  simp only [o_0, o_122, r_0_0, r_1_0, r_1_1, r_122_0, bi1 brd_2, f10_isPlayer, f11_isPlayer, f11_isSide, Option.bind_some, f10_within, f11_in, gx_bd_some, f10_bad, f11_bad', f10_no, f11_no']
  have eB : (badC M).1 123 = M.1 123 := by unfold badC; rw [sI_o (by omega)]
  have eN : (noC M).1 123 = M.1 123 := by unfold noC; rw [sI_o (by omega)]
  by_cases c1 : 0 ≤ a ∧ a ≤ M.1 2 3 - 1
  case neg =>
    rw [b2_f c1, if_pos rfl]
    refine ⟨_, badC M, badR (badC M), rfl, ?_, h.bad⟩
    rw [eB, b2_f (fun z => c1 ((g.pl _).mp z)), if_pos rfl]
  rw [b2_t c1, if_neg (by decide)]
  have c1' := (g.pl _).mpr c1
  by_cases c2 : 1 ≤ b ∧ b ≤ M.1 2 1
  case neg =>
    rw [b2_f c2, if_pos rfl]
    refine ⟨_, badC M, badR (badC M), rfl, ?_, h.bad⟩
    rw [eB, b2_t c1', if_neg (by decide), g.w1, b2_f c2, if_pos rfl]
  rw [b2_t c2, if_neg (by decide)]
  obtain ⟨i, hi, rfl⟩ := g.isP c1
  have hD := g.D
  obtain ⟨r, hr, rfl⟩ := bn_nI (x := b) (n := 6) ⟨by have := t_le.mp c2.1; rw [i1] at this; omega, by have := t_le.mp c2.2; have := hD.2; omega⟩
  have hr1 : 1 ≤ r := by have := t_le.mp c2.1; rw [i1, nI_toInt (by omega)] at this; omega
  rw [c_isHome brd_2 (by omega), gx_bd_some]
  simp only [r_0_0, r_1_0, r_1_1, Option.bind_some, f10_no, gx_bd_some]
  by_cases c3 : M.1 (2 + 6) i = M.1 2 0
  · rw [b2_t c3, if_neg (by decide)]
    refine ⟨_, noC M, noR (noC M), rfl, ?_, h.no⟩
    rw [eN, b2_t c1', if_neg (by decide), g.w1, b2_t c2, if_neg (by decide), show (0 : Int32) = nI 0 from rfl, r_isHome (by omega) (by omega), gx_bd_some, show VR (noC M).1 0 = VR M.1 0 from by unfold VR; rw [eN], b2_t ((g.home hi).mpr c3), if_neg (by decide)]
    simp only [f11_no', gx_bd_some]
  rw [b2_f c3, if_pos rfl]
  obtain ⟨M1, o, h1, q', n1, n2, n3, n4, n5, n6, n7, n8, n9, n10, n11⟩ := c_next g.2.2.2.2.1 g.2.2.2.2.2.1 g.2.2.2.2.2.2.2.1 g.2.2.2.2.2.2.2.2.1
  rw [n1, gx_bd_some]
  have hV1 : VC M1.1 2 = VC M.1 2 := VC_eq (fun a z1 z2 => n6 a (by omega))
  obtain ⟨s1, s2⟩ := (n9 h1 n4).2
  obtain ⟨M2, m1, m2, m3, m4, m5, m6, m7, m8⟩ := c_move (M := M1) (b := 2) (s := 1 + q' h1) brd_2 (st_C s1 s2) (by omega) (n := n) (np := np) (i := i) (r := r) (by rw [hV1]; exact g.1) hi hr1 hr
  rw [m1, gx_bd_some]
  simp only [r_0_0, r_1_0, br9 brd_2, ba6 brd_2 (show i < 4 by omega), Option.bind_some]
  rw [hV1] at m2 m4 m5 m6 m7
  have f2 : ∀ c, c < 2 ∨ 10 ≤ c → c ≠ 1 + q' h1 → M2.1 c = M1.1 c := fun c z1 z2 => m8.2 c (fun z => by unfold inBS at z; omega)
  have e2 : ∀ c, c < 2 ∨ 10 < c → c ≠ 1 + q' h1 → M2.1 c = M.1 c := fun c z1 z2 => by rw [f2 c (by omega) z2, n6 c (by omega)]
  have e123 : M2.1 123 = M.1 123 := e2 123 (by omega) (by omega)
  have eW : VR M2.1 0 = VR M.1 0 := by unfold VR; rw [e123]
  obtain ⟨M3, o', h1', k1, k2, k3, k4, k5, k6, k7, k8⟩ := r_minds (M := M2) (hs := hs) g.2.2.2.2.1 (by rw [e123]; exact g.2.2.2.2.2.2.1)
  have eo : o' = o := by rw [k3, n3]
  subst eo
  have eh : h1' = h1 := by omega
  subst eh
  have q3 : eqv n np (VC M.1 2) (VR M3.1 0) := eqv_iff.mpr (fun j hj => by rw [eqv_iff.mp g.2.1 j hj, VR0, VR0, k4.2.2 j (by unfold rel at hj; omega), e123])
  obtain ⟨M4, t1, t2, t3⟩ := r_throwsOne (M := M3) (r := 0) (n := n) (np := np) (i := i) (t := nI r) (by omega) (eqv_ok q3 g.1) hi
  have q4 : eqv n np (thr (VC M.1 2) n i (nI r)) (VR M4.1 0) := by rw [t2]; exact eqv_thr q3 hi
  have f4 : ∀ c, c ≠ 123 → M4.1 c = M2.1 c := fun c hc => by rw [t3.2.1 c hc, k4.2.1 c hc]
  have w4 : ∀ j, 40 ≤ j → M4.1 123 j = M3.1 123 j := fun j hj => t3.2.2 j (by omega)
  have hV4 : VC M4.1 2 = thr (VC M.1 2) n i (nI r) := by rw [← m2]; exact VC_eq (fun a z1 z2 => f4 a (by omega))
  refine ⟨_, M2, M4, rfl, ?_, ?_⟩
  · rw [e123, b2_t c1', if_neg (by decide), g.w1, b2_t c2, if_neg (by decide), show (0 : Int32) = nI 0 from rfl, r_isHome (by omega) (by omega), gx_bd_some, eW, b2_f (fun z => c3 ((g.home hi).mp z)), if_pos (show (0 : Int32) = nI 0 from rfl), k1, gx_bd_some, t1, gx_bd_some]
    simp only [r_122_0, Option.bind_some, nIl', ra (show 32 + i < 852 by omega)]
    rw [← VR0 M4.1, ← (q4.2.2.2.2.2 i hi).2.1, ← m2, VC_6 _ _ (by omega)]
  · refine h.push g k2 n4 ?_ ?_ ?_ ?_ ?_ ?_ (q' := q') ?_ n10 n11 ?_ ?_ ?_ ?_ ?_ ?_ ?_
    · rw [hV4]; exact okV_thr g.1 hi hr1 hr
    · rw [hV4]; exact q4
    · rw [f4 _ (by omega)]
      exact ⟨i, metV (VC M.1 2) n i (nI r), hi, fun k hk => (metV_lt hk).1, m3, m6⟩
    · rw [hV4, f4 _ (by omega)]
      unfold tbS
      rw [m3, m4, m5, m6, nI_clamp (by omega), lk_dec (fun k hk => by have := (metV_lt hk).1; omega)]
      exact thr_tb (by omega) hn6 m7
    · rw [f4 _ (by omega), f2 10 (by omega) (by omega), n5]
    · rw [w4 _ (by omega), k5]
    · intro j hj
      rw [t3.1, k4.1, m8.1]; exact n9 j hj
    · intro a ha
      rw [t3.1, k4.1, m8.1]; exact n8 a ha
    · rw [t3.1, k4.1, m8.1]; exact n7
    · intro a z1 z2 z3
      rw [f4 a z2]; exact e2 a z1 z3
    · intro j hj
      rw [w4 j (by omega), k4.2.2 j (by omega), e123]
    · intro j hj
      rw [w4 _ (by omega), w4 _ (by omega), (k6 j hj).1, (k6 j hj).2, e123]
      exact ⟨rfl, rfl⟩
    · intro k hk
      rw [w4 _ (by omega), k7 k hk, e123]
    · intro j hj
      rw [w4 _ (by omega), k8 j hj, e123]
theorem op_sets (a b : Int32) : Op (fX10_sets 0 a b) (fX11_sets 122 a b) := by
  intro M h
  obtain ⟨n, np, hs, q, g⟩ := h.gm
  have hn6 := g.n6
  have hp4 := g.np6
  unfold fX10_sets fX11_sets fX10_sets_26 fX11_sets_16
  simp only [o_0, o_122, r_0_0, r_1_0, r_1_1, r_122_0, bi0 brd_2, br9 brd_2, f10_isPlayer, f11_isPlayer, f11_isSquare, Option.bind_some, f10_within, f11_in, gx_bd_some, f10_bad, f11_bad', f10_no, f11_no']
  have eB : (badC M).1 123 = M.1 123 := by unfold badC; rw [sI_o (by omega)]
  have eN : (noC M).1 123 = M.1 123 := by unfold noC; rw [sI_o (by omega)]
  by_cases c1 : 0 ≤ a ∧ a ≤ M.1 2 3 - 1
  case neg =>
    rw [b2_f c1, if_pos rfl]
    refine ⟨_, badC M, badR (badC M), rfl, ?_, h.bad⟩
    rw [eB, b2_f (fun z => c1 ((g.pl _).mp z)), if_pos rfl]
  rw [b2_t c1, if_neg (by decide)]
  have c1' := (g.pl _).mpr c1
  by_cases c2 : 0 ≤ b ∧ b ≤ M.1 2 0
  case neg =>
    rw [b2_f c2, if_pos rfl]
    refine ⟨_, badC M, badR (badC M), rfl, ?_, h.bad⟩
    rw [eB, b2_t c1', if_neg (by decide), g.w0, b2_f c2, if_pos rfl]
  rw [b2_t c2, if_neg (by decide)]
  obtain ⟨i, hi, rfl⟩ := g.isP c1
  have hsq : M.1 123 (32 + i) = M.1 (2 + 6) i := by rw [← VR0 M.1, ← (g.2.1.2.2.2.2.2 i hi).2.1, VC_6 _ _ (by omega)]
  rw [ba6 brd_2 (by omega), Option.bind_some]
  by_cases c3 : M.1 (2 + 6) i = b
  · rw [if_pos c3]
    refine ⟨_, noC M, noR (noC M), rfl, ?_, h.no⟩
    rw [eN, b2_t c1', if_neg (by decide), g.w0, b2_t c2, if_neg (by decide), nIl', ra (by omega), Option.bind_some, eN, hsq, if_pos c3]
  rw [if_neg c3]
  obtain ⟨M1, o, h1, q', n1, n2, n3, n4, n5, n6, n7, n8, n9, n10, n11⟩ := c_next g.2.2.2.2.1 g.2.2.2.2.2.1 g.2.2.2.2.2.2.2.1 g.2.2.2.2.2.2.2.2.1
  rw [n1, gx_bd_some]
  have hV1 : VC M1.1 2 = VC M.1 2 := VC_eq (fun a z1 z2 => n6 a (by omega))
  obtain ⟨s1, s2⟩ := (n9 h1 n4).2
  obtain ⟨M0, m1, m3, m4, m5, m6, m8⟩ := c_remember (M := M1) (b := 2) (s := 1 + q' h1) brd_2 (st_C s1 s2) (by omega) (i := i) (by omega)
  rw [m1, gx_bd_some]
  simp only [r_0_0, r_1_0, br9 brd_2, bs6 brd_2 (show i < 4 by omega), Option.bind_some]
  rw [hV1] at m4 m5
  have hV0 : VC M0.1 2 = VC M.1 2 := by rw [← hV1]; exact m8.V (fun a z1 z2 z => by omega)
  generalize hM2 : sI M0 (2 + 6) i b = M2
  have f2 : ∀ c, c ≠ 8 → c ≠ 1 + q' h1 → M2.1 c = M1.1 c := fun c z1 z2 => by rw [← hM2, sI_o z1]; exact m8.2 c z2
  have e2 : ∀ c, c ≠ 8 → c ≠ 10 → c ≠ 1 + q' h1 → M2.1 c = M.1 c := fun c z1 z2 z3 => by rw [f2 c z1 z3, n6 c z2]
  have hV2 : VC M2.1 2 = upd (VC M.1 2) (32 + i) b := by rw [← hM2, show (sI M0 (2 + 6) i b).1 = up2 M0.1 (2 + 6) i b from rfl, VC_u6 _ _ _ (by omega), hV0]
  have hst : M2.1 (1 + q' h1) = M0.1 (1 + q' h1) := by rw [← hM2, sI_o (by omega)]
  have e123 : M2.1 123 = M.1 123 := e2 123 (by omega) (by omega) (by omega)
  have p2 : M2.2 = M1.2 := by rw [← hM2]; exact m8.1
  obtain ⟨M3, o', h1', k1, k2, k3, k4, k5, k6, k7, k8⟩ := r_minds (M := M2) (hs := hs) g.2.2.2.2.1 (by rw [e123]; exact g.2.2.2.2.2.2.1)
  have eo : o' = o := by rw [k3, n3]
  subst eo
  have eh : h1' = h1 := by omega
  subst eh
  refine ⟨_, M2, sI M3 123 (32 + i) b, rfl, ?_, ?_⟩
  · rw [e123, b2_t c1', if_neg (by decide), g.w0, b2_t c2, if_neg (by decide), nIl', ra (by omega), Option.bind_some, e123, hsq, if_neg c3, k1, gx_bd_some]
    simp only [r_122_0, Option.bind_some, rs (show 32 + i < 852 by omega)]
  · have f4 : ∀ c, c ≠ 123 → (sI M3 123 (32 + i) b).1 c = M2.1 c := fun c hc => by rw [sI_o hc, k4.2.1 c hc]
    have w4 : ∀ j, 40 ≤ j → (sI M3 123 (32 + i) b).1 123 j = M3.1 123 j := fun j hj => sI_n (by omega)
    have q4 : eqv n np (upd (VC M.1 2) (32 + i) b) (VR (sI M3 123 (32 + i) b).1 0) := eqv_iff.mpr (fun j hj => by
      rw [VR0]
      by_cases z : j = 32 + i
      · subst z; rw [upd_s, sI_s]
      · rw [upd_n _ _ z, sI_n z, eqv_iff.mp g.2.1 j hj, VR0, k4.2.2 j (by unfold rel at hj; omega), e123])
    have p4 : (sI M3 123 (32 + i) b).2 = M1.2 := (k4.1 : M3.2 = M2.2).trans p2
    generalize sI M3 123 (32 + i) b = M4 at f4 w4 q4 p4 ⊢
    have hV4 : VC M4.1 2 = upd (VC M.1 2) (32 + i) b := by rw [← hV2]; exact VC_eq (fun a z1 z2 => f4 a (by omega))
    refine h.push g k2 n4 ?_ ?_ ?_ ?_ ?_ ?_ (q' := q') ?_ n10 n11 ?_ ?_ ?_ ?_ ?_ ?_ ?_
    · rw [hV4]
      obtain ⟨a1, a2, a3, a4, a5, a6, a7, a8⟩ := g.1
      refine ⟨by rw [upd_n _ _ (by omega)]; exact a1, a2, by rw [upd_n _ _ (by omega)]; exact a3, a4, by rw [upd_n _ _ (by omega)]; exact a5, by rw [upd_n _ _ (by omega)]; exact a6, fun k hk => ?_, fun i' hi' => ?_⟩
      · rw [upd_n _ _ (by omega), upd_n _ _ (by omega), upd_n _ _ (by omega)]; exact a7 k hk
      · rw [upd_n _ _ (show 36 + i' ≠ 32 + i by omega), upd_n _ _ (show 0 ≠ 32 + i by omega)]
        refine ⟨?_, (a8 i' hi').2⟩
        by_cases z : i' = i
        · subst z
          rw [upd_s, VC_0 _ _ (by omega)]
          exact ⟨by have := t_le.mp c2.1; rw [i0] at this; exact this, t_le.mp c2.2⟩
        · rw [upd_n _ _ (by omega)]; exact (a8 i' hi').1
    · rw [hV4]; exact q4
    · rw [f4 _ (by omega), hst]
      exact ⟨i, none, hi, fun k hk => (by cases hk), m3, m6⟩
    · rw [hV4, f4 _ (by omega), hst]
      unfold tbS
      rw [m3, m4, m5, m6, nI_clamp (by omega), if_pos rfl]
      show upd (upd (upd (VC M.1 2) (32 + i) b) (32 + i) (VC M.1 2 (32 + i))) (36 + i) (VC M.1 2 (36 + i)) = VC M.1 2
      rw [upd_upd, upd_self (VC M.1 2) rfl, upd_self (VC M.1 2) rfl]
    · rw [f4 _ (by omega), f2 10 (by omega) (by omega), n5]
    · rw [w4 _ (by omega), k5]
    · intro j hj
      rw [p4]; exact n9 j hj
    · intro a ha
      rw [p4]; exact n8 a ha
    · rw [p4]; exact n7
    · intro a z1 z2 z3
      rw [f4 a z2]; exact e2 a (by omega) (by omega) z3
    · intro j hj
      rw [w4 j (by omega), k4.2.2 j (by omega), e123]
    · intro j hj
      rw [w4 _ (by omega), w4 _ (by omega), (k6 j hj).1, (k6 j hj).2, e123]
      exact ⟨rfl, rfl⟩
    · intro k hk
      rw [w4 _ (by omega), k7 k hk, e123]
    · intro j hj
      rw [w4 _ (by omega), k8 j hj, e123]
