/-! how many are at home; undo; goes -/
def cntH (V : Nat → Int32) : Nat → Nat → Int32 → Int32
  | 0, _, acc => acc
  | m + 1, i, acc => cntH V m (i + 1) (if V (32 + i) = V 0 then acc + 1 else acc)
theorem cntH_eq {V W : Nat → Int32} (h0 : V 0 = W 0) : ∀ (m i : Nat) (acc : Int32), (∀ j, i ≤ j → j < i + m → V (32 + j) = W (32 + j)) → cntH V m i acc = cntH W m i acc
  | 0, _, _, _ => rfl
  | m + 1, i, acc, h => by
    unfold cntH
    rw [h i (by omega) (by omega), h0]
    exact cntH_eq h0 m (i + 1) _ (fun j h1 h2 => h j (by omega) (by omega))
theorem c_homes_l {M : mm} {b np : Nat} (hb : brd b) (h3 : M.1 b 3 = nI np) (h4 : np ≤ 4) : ∀ (m i F : Nat) (acc : Int32), i + m = np → m < F → fX0_homes_4 F b acc (nI i) (lay M) = some (cntH (VC M.1 b) m i acc, lay M)
  | m, i, 0, acc, _, hF => by omega
  | 0, i, F + 1, acc, hi, _ => by
    show bX0_homes_4 (fX0_homes_4 F) b acc (nI i) (lay M) = _
    unfold bX0_homes_4
    rw [bi3 hb, Option.bind_some, h3, if_pos (nI_le (by omega) (by omega))]
    rfl
  | m + 1, i, F + 1, acc, hi, hF => by
    show bX0_homes_4 (fX0_homes_4 F) b acc (nI i) (lay M) = _
    unfold bX0_homes_4 fX0_homes_23
    rw [bi3 hb, Option.bind_some, h3, if_neg (nI_ge (by omega) (by omega)), c_isHome hb (by omega), gx_bd_some, nI_1]
    unfold cntH
    rw [VC_6 _ _ (by omega), VC_0 _ _ (by omega)]
    by_cases c : M.1 (b + 6) i = M.1 b 0
    · rw [b2_t c, if_neg (by decide), if_pos c]
      exact c_homes_l hb h3 h4 m (i + 1) F _ (by omega) (by omega)
    · rw [b2_f c, if_pos rfl, if_neg c]
      exact c_homes_l hb h3 h4 m (i + 1) F _ (by omega) (by omega)
theorem c_homes {M : mm} {b np : Nat} (hb : brd b) (h3 : M.1 b 3 = nI np) (h4 : np ≤ 4) : fX0_homes b (lay M) = some (cntH (VC M.1 b) np 0 0, lay M) := by
  unfold fX0_homes
  rw [bo hb, Option.bind_some]
  exact c_homes_l hb h3 h4 np 0 gx_N 0 (by omega) (by unfold gx_N; omega)
theorem r_homes_l {M : mm} {r np : Nat} (hr : r ≤ 812) (h3 : VR M.1 r 3 = nI np) (h4 : np ≤ 4) : ∀ (m i F : Nat) (acc : Int32), i + m = np → m < F → fX11_homes_4 F 122 (nI r) acc (nI i) (lay M) = some (cntH (VR M.1 r) m i acc, lay M)
  | m, i, 0, acc, _, hF => by omega
  | 0, i, F + 1, acc, hi, _ => by
    show bX11_homes_4 (fX11_homes_4 F) 122 (nI r) acc (nI i) (lay M) = _
    unfold bX11_homes_4
    rw [r_122_0, Option.bind_some, nIl, ra (by omega), Option.bind_some, show M.1 123 (r + 3) = nI np from h3, if_pos (nI_le (by omega) (by omega))]
    rfl
  | m + 1, i, F + 1, acc, hi, hF => by
    show bX11_homes_4 (fX11_homes_4 F) 122 (nI r) acc (nI i) (lay M) = _
    unfold bX11_homes_4 fX11_homes_31
    rw [r_122_0, Option.bind_some, nIl, ra (by omega), Option.bind_some, show M.1 123 (r + 3) = nI np from h3, if_neg (nI_ge (by omega) (by omega)), r_isHome hr (by omega), gx_bd_some, nI_1]
    unfold cntH
    by_cases c : VR M.1 r (32 + i) = VR M.1 r 0
    · rw [b2_t c, if_neg (by decide), if_pos c]
      exact r_homes_l hr h3 h4 m (i + 1) F _ (by omega) (by omega)
    · rw [b2_f c, if_pos rfl, if_neg c, Int32.add_zero]
      exact r_homes_l hr h3 h4 m (i + 1) F _ (by omega) (by omega)
theorem r_homes {M : mm} {r np : Nat} (hr : r ≤ 812) (h3 : VR M.1 r 3 = nI np) (h4 : np ≤ 4) : fX11_homes 122 (nI r) (lay M) = some (cntH (VR M.1 r) np 0 0, lay M) := by
  unfold fX11_homes
  rw [o_122, Option.bind_some]
  exact r_homes_l hr h3 h4 np 0 gx_N 0 (by omega) (by unfold gx_N; omega)
theorem eqv_cnt {n np : Nat} {V W : Nat → Int32} (h : eqv n np V W) : cntH V np 0 0 = cntH W np 0 0 := cntH_eq h.1 np 0 0 (fun j _ h2 => (h.2.2.2.2.2 j (by omega)).2.1)
theorem r_undo_91 {p : Nat} (hp : 91 ≤ p) (hp2 : p + 14 ≤ 203) : ∀ (m k F : Nat) (M : mm), k + m = 6 → m < F → ∃ M', fX11_undo_91 F 122 (nI p) (nI k) (lay M) = (gx_bd (fX11_homes 122 0 (lay M')) fun x19 h18 => some (x19, h18)) ∧ frS (fun x => 22 + k ≤ x ∧ x < 28) M M' ∧ ∀ j, k ≤ j → j < 6 → M'.1 123 (22 + j) = M.1 123 (p + 8 + j)
  | m, k, 0, M, _, hF => by omega
  | 0, k, F + 1, M, hj, _ => by
    show ∃ M', bX11_undo_91 (fX11_undo_91 F) 122 (nI p) (nI k) (lay M) = _ ∧ _
    unfold bX11_undo_91
    rw [if_pos (show (6 : Int32) ≤ nI k from nI_le (a := 6) (by omega) (by omega))]
    exact ⟨M, rfl, frS.rf, fun i h1 h2 => by omega⟩
  | m + 1, k, F + 1, M, hj, hF => by
    show ∃ M', bX11_undo_91 (fX11_undo_91 F) 122 (nI p) (nI k) (lay M) = _ ∧ _
    unfold bX11_undo_91
    rw [if_neg (show ¬ (6 : Int32) ≤ nI k from nI_ge (b := 6) (by omega) (by omega))]
    simp only [r_122_0, Option.bind_some, nIl, nIl', nI_add, rs (show 22 + k < 852 by omega), ra (show p + 8 + k < 852 by omega)]
    obtain ⟨M', e1, e2, e3⟩ := r_undo_91 hp hp2 m (k + 1) F (sI M 123 (22 + k) (M.1 123 (p + 8 + k))) (by omega) (by omega)
    refine ⟨M', e1, ((frS.rf (M := M)).put (j := 22 + k) ⟨by omega, by omega⟩).tr (e2.mono (fun x q => by omega)), fun j h1 h2 => ?_⟩
    by_cases q : j = k
    · subst q; rw [e2.2.2 (22 + j) (by omega), sI_s]
    · rw [e3 j (by omega) h2, sI_n (by omega)]
theorem r_undo_42 {p : Nat} (hp : 91 ≤ p) (hp2 : p + 14 ≤ 203) : ∀ (m i F : Nat) (M : mm), i + m = 4 → m < F → ∃ M', fX11_undo_42 F 122 (nI p) (nI i) (lay M) = fX11_undo_91 gx_N 122 (nI p) 0 (lay M') ∧ frS (fun x => (32 + i ≤ x ∧ x < 36) ∨ (36 + i ≤ x ∧ x < 40)) M M' ∧ ∀ j, i ≤ j → j < 4 → M'.1 123 (32 + j) = M.1 123 (p + j) ∧ M'.1 123 (36 + j) = M.1 123 (p + 4 + j)
  | m, i, 0, M, _, hF => by omega
  | 0, i, F + 1, M, hj, _ => by
    show ∃ M', bX11_undo_42 (fX11_undo_42 F) 122 (nI p) (nI i) (lay M) = _ ∧ _
    unfold bX11_undo_42
    rw [if_pos (show (4 : Int32) ≤ nI i from nI_le (a := 4) (by omega) (by omega))]
    exact ⟨M, rfl, frS.rf, fun i h1 h2 => by omega⟩
  | m + 1, i, F + 1, M, hj, hF => by
    show ∃ M', bX11_undo_42 (fX11_undo_42 F) 122 (nI p) (nI i) (lay M) = _ ∧ _
    unfold bX11_undo_42
    rw [if_neg (show ¬ (4 : Int32) ≤ nI i from nI_ge (b := 4) (by omega) (by omega))]
    simp only [r_122_0, Option.bind_some, nIl, nIl', nI_add, rs (show 32 + i < 852 by omega), ra (show p + i < 852 by omega), rs (show 36 + i < 852 by omega), ra (show p + 4 + i < 852 by omega)]
    rw [sI_n (show p + 4 + i ≠ 32 + i by omega)]
    obtain ⟨M', e1, e2, e3⟩ := r_undo_42 hp hp2 m (i + 1) F (sI (sI M 123 (32 + i) (M.1 123 (p + i))) 123 (36 + i) (M.1 123 (p + 4 + i))) (by omega) (by omega)
    refine ⟨M', e1, (((frS.rf (M := M)).put (j := 32 + i) (Or.inl ⟨by omega, by omega⟩)).put (j := 36 + i) (Or.inr ⟨by omega, by omega⟩)).tr (e2.mono (fun x q => by omega)), fun j h1 h2 => ?_⟩
    by_cases q : j = i
    · subst q
      rw [e2.2.2 (32 + j) (by omega), e2.2.2 (36 + j) (by omega), sI_n (by omega), sI_s, sI_s]
      exact ⟨rfl, rfl⟩
    · obtain ⟨x1, x2⟩ := e3 j (by omega) h2
      rw [x1, x2, sI_n (by omega), sI_n (by omega), sI_n (by omega), sI_n (by omega)]
      exact ⟨rfl, rfl⟩
theorem tb_o {V : Nat → Int32} {pl : Nat} {sq th us : Int32} {lk : Option Nat} {j : Nat} (h1 : j ≠ 32 + pl) (h2 : j ≠ 36 + pl) (h3 : ∀ k, lk = some k → j ≠ 22 + k) : tb V pl sq th lk us j = V j := by
  unfold tb
  cases lk with
  | none => dsimp only; rw [upd_n _ _ h2, upd_n _ _ h1]
  | some k => dsimp only; rw [upd_n _ _ (h3 k rfl), upd_n _ _ h2, upd_n _ _ h1]
theorem op_undo : Op (fX10_undo 0) (fX11_undo 122) := by
  intro M h
  obtain ⟨n, np, hs, q, g⟩ := h.gm
  have hn6 := g.n6
  have hp4 := g.np6
  have h8 := g.2.2.2.2.1
  have e10 := g.2.2.2.2.2.1
  have e90 := g.2.2.2.2.2.2.1
  unfold fX10_undo fX11_undo
  simp only [o_0, o_122, r_0_0, r_1_0, r_1_1, r_122_0, i_10_0, Option.bind_some, gx_bd_some, f10_no, f11_no', show (90 : Int32) = nI 90 from rfl, ra (show 90 < 852 by omega), rs (show 90 < 852 by omega), e10]
  have eN : (noC M).1 123 = M.1 123 := by unfold noC; rw [sI_o (by omega)]
  cases hs with
  | zero =>
    rw [if_pos (show nI 0 = 0 from rfl)]
    refine ⟨_, noC M, noR (noC M), rfl, ?_, h.no⟩
    rw [eN, e90, if_pos (show nI 0 = 0 from rfl)]
  | succ t =>
    have z0 : ¬ nI (t + 1) = (0 : Int32) := fun z => by have := (nI_eq (b := 0) (by omega) (by omega)).mp z; omega
    rw [if_neg z0]
    obtain ⟨a1, a2, a3, a4, a5, a6, a7, a8, a9, b1, b2, b3, b4⟩ := g
    obtain ⟨pl, lk, l1, l2, l3, l4⟩ := b1
    dsimp only at l3 l4
    obtain ⟨p1, p2, p3⟩ := a8 t (by omega)
    unfold fX3_takeBack fX3_takeBack_30
    simp only [o_10, i_10_0, r_10_1, pi_10_0, Option.bind_some, e10]
    rw [if_neg (show ¬ nI (t + 1) ≤ 0 from nI_ge (a := 0) (b := t + 1) (by omega) (by omega)), nI_pred]
    rw [sI_s, ar11 (by omega)]
    rw [show (sI M 10 0 (nI t)).2.2 = M.2.2 from rfl, p1, Option.bind_some]
    obtain ⟨M1, m1, m2, m3⟩ := c_takeBack (M := sI M 10 0 (nI t)) (b := 2) (s := 1 + q t) brd_2 (st_C p2 p3) (by omega) (pl := pl) (lk := lk) (by rw [sI_o (by omega)]; exact l3) (by omega) (by rw [sI_o (by omega)]; exact l4) (fun k hk => by have := l2 k hk; omega)
    rw [m1, gx_bd_some, gx_bd_some]
    simp only [r_0_0, r_1_0, Option.bind_some]
    rw [sI_o (show 1 + q t ≠ 10 by omega), show VC (sI M 10 0 (nI t)).1 2 = VC M.1 2 from VC_out M.1 _ (by omega)] at m2
    have hU : tbS (M.1 (1 + q t)) (VC M.1 2) = VC M1.1 2 := by
      rw [m2]
      unfold tbS
      rw [l3, l4, nI_clamp (by omega), lk_dec (fun k hk => by have := l2 k hk; omega)]
    dsimp only at b2 b3 b4
    rw [hU] at b2 b3 b4
    have f1 : ∀ c, c < 2 ∨ 10 < c → M1.1 c = M.1 c := fun c z1 => by rw [m3.2 c (fun z => by unfold inB at z; omega), sI_o (by omega)]
    have f10 : M1.1 10 0 = nI t := by rw [m3.2 10 (fun z => by unfold inB at z; omega), sI_s]
    have e123 : M1.1 123 = M.1 123 := f1 123 (by omega)
    rw [c_homes brd_2 (by rw [← VC_0 M1.1 2 (by omega)]; exact b2.2.2.1) hp4, gx_bd_some]
    obtain ⟨M2, u1, u2, u3⟩ := r_undo_42 (p := 91 + 14 * t) (by omega) (by omega) 4 0 gx_N (sI M1 123 90 (nI t)) (by omega) (by unfold gx_N; omega)
    obtain ⟨M3, v1, v2, v3⟩ := r_undo_91 (p := 91 + 14 * t) (by omega) (by omega) 6 0 gx_N M2 (by omega) (by unfold gx_N; omega)
    have w3 : ∀ j, j < 22 ∨ 28 ≤ j → j < 32 ∨ 40 ≤ j → j ≠ 90 → M3.1 123 j = M.1 123 j := fun j z1 z2 z3 => by rw [v2.2.2 j (by omega), u2.2.2 j (by omega), sI_n z3, e123]
    have f3 : ∀ c, c ≠ 123 → M3.1 c = M1.1 c := fun c hc => by rw [v2.2.1 c hc, u2.2.1 c hc, sI_o hc]
    have w90 : M3.1 123 90 = nI t := by rw [v2.2.2 90 (by omega), u2.2.2 90 (by omega), sI_s]
    have p3 : M3.2 = M.2 := by rw [v2.1, u2.1]; exact m3.1
    have hV3 : VC M3.1 2 = VC M1.1 2 := VC_eq (fun a z1 z2 => f3 a (by omega))
    have q3 : eqv n np (VC M1.1 2) (VR M3.1 0) := by
      have old : ∀ j, rel n np j → j < 22 ∨ 28 ≤ j → j < 32 → VC M1.1 2 j = VR M3.1 0 j := fun j hj z1 z2 => by
        rw [m2, tb_o (by omega) (by omega) (fun k hk => by have := l2 k hk; omega), eqv_iff.mp a2 j hj, VR0, VR0, w3 j z1 (by omega) (by omega)]
      refine ⟨old 0 (by unfold rel; omega) (by omega) (by omega), old 1 (by unfold rel; omega) (by omega) (by omega), old 2 (by unfold rel; omega) (by omega) (by omega), old 3 (by unfold rel; omega) (by omega) (by omega), fun k hk => ⟨old _ (by unfold rel; omega) (by omega) (by omega), old _ (by unfold rel; omega) (by omega) (by omega), old _ (by unfold rel; omega) (by omega) (by omega), ?_⟩, fun i hi => ⟨old _ (by unfold rel; omega) (by omega) (by omega), ?_, ?_⟩⟩
      · rw [VR0, v3 k (by omega) (by omega), u2.2.2 _ (by omega), sI_n (by omega), e123, ← VR0 M.1, b3.2 k hk]
      · rw [VR0, v2.2.2 _ (by omega), (u3 i (by omega) (by omega)).1, sI_n (by omega), e123, ← VR0 M.1, (b3.1 i hi).1]
      · rw [VR0, v2.2.2 _ (by omega), (u3 i (by omega) (by omega)).2, sI_n (by omega), e123, ← VR0 M.1, (b3.1 i hi).2]
    refine ⟨_, M1, M3, rfl, ?_, ?_⟩
    · rw [e123, e90, if_neg z0, nI_pred]
      simp only [r_122_0, Option.bind_some, ra (show 90 < 852 by omega), sI_s, show (14 : Int32) = nI 14 from rfl, show (91 : Int32) = nI 91 from rfl, pk_mul, nI_add]
      have u1' : fX11_undo_42 gx_N 122 (nI (91 + 14 * t)) 0 (lay (sI M1 123 90 (nI t))) = _ := u1
      have v1' : fX11_undo_91 gx_N 122 (nI (91 + 14 * t)) 0 (lay M2) = _ := v1
      have hh : fX11_homes 122 0 (lay M3) = _ := r_homes (M := M3) (r := 0) (by omega) (by rw [← q3.2.2.2.1]; exact b2.2.2.1) hp4
      rw [u1', v1', hh, gx_bd_some, eqv_cnt q3]
    · refine h.game2 (n := n) (np := np) (hs := t) (q := q) ⟨by rw [hV3]; exact b2, by rw [hV3]; exact q3, a3.eq (fun a z1 z2 => by rw [f3 _ (by omega), f1 _ (by omega)]) (fun j z1 z2 => by rw [VR0, VR0]; exact w3 j (by omega) (by omega) (by omega)), a4.eq (fun a z1 z2 => by rw [f3 _ (by omega), f1 _ (by omega)]) (fun j z1 z2 => by rw [VR0, VR0]; exact w3 j (by omega) (by omega) (by omega)), by omega, by rw [f3 _ (by omega), f10], w90, by rw [p3]; exact a8, a9, ?_⟩ (fun a _ => by rw [p3]) (by rw [p3]) (fun a z1 z2 => by rw [f3 a z2, f1 a (by omega)]) (by rw [f3 0 (by omega), f1 0 (by omega)]) (fun j z1 z2 => w3 j (by omega) (by omega) (by omega))
      rw [hV3]
      refine chain_move (o := 0) hn6 hp4 t _ (fun j hj => ?_) (fun i hi => ?_) b4
      · have := a8 j (by omega)
        rw [Nat.add_zero, f3 _ (by omega), f1 _ (by omega)]
      · rw [VR0, VR0, w3 _ (by omega) (by omega) (by omega)]; rfl
theorem r_tries_l : ∀ (m j F : Nat) (M : mm), j + m = 40 → m < F → ∃ M', fX11_tries_2 F 122 (nI j) (lay M) = some ((), lay M') ∧ frS (fun x => 812 + j ≤ x ∧ x < 852) M M' ∧ ∀ i, j ≤ i → i < 40 → M'.1 123 (812 + i) = M.1 123 i
  | m, j, 0, M, _, hF => by omega
  | 0, j, F + 1, M, hj, _ => by
    show ∃ M', bX11_tries_2 (fX11_tries_2 F) 122 (nI j) (lay M) = _ ∧ _
    unfold bX11_tries_2
    rw [if_pos (show (40 : Int32) ≤ nI j from nI_le (a := 40) (by omega) (by omega))]
    exact ⟨M, rfl, frS.rf, fun i h1 h2 => by omega⟩
  | m + 1, j, F + 1, M, hj, hF => by
    show ∃ M', bX11_tries_2 (fX11_tries_2 F) 122 (nI j) (lay M) = _ ∧ _
    unfold bX11_tries_2
    rw [if_neg (show ¬ (40 : Int32) ≤ nI j from nI_ge (b := 40) (by omega) (by omega))]
    simp only [r_122_0, Option.bind_some, nIl, nIl', ra (show j < 852 by omega), rs (show 812 + j < 852 by omega)]
    obtain ⟨M', e1, e2, e3⟩ := r_tries_l m (j + 1) F (sI M 123 (812 + j) (M.1 123 j)) (by omega) (by omega)
    refine ⟨M', e1, ((frS.rf (M := M)).put (j := 812 + j) ⟨by omega, by omega⟩).tr (e2.mono (fun x q => by omega)), fun i h1 h2 => ?_⟩
    by_cases q : i = j
    · subst q; rw [e2.2.2 (812 + i) (by omega), sI_s]
    · rw [e3 i (by omega) h2, sI_n (by omega)]
theorem r_tries (M : mm) : ∃ M', fX11_tries 122 (lay M) = some ((), lay M') ∧ frW 812 852 M M' ∧ ∀ i, i < 40 → VR M'.1 812 i = VR M.1 0 i := by
  unfold fX11_tries
  rw [o_122, Option.bind_some]
  obtain ⟨M', e1, e2, e3⟩ := r_tries_l 40 0 gx_N M (by omega) (by unfold gx_N; omega)
  exact ⟨M', e1, e2.W, fun i hi => by rw [VR0]; exact e3 i (by omega) hi⟩
theorem eqv_low {n np : Nat} {V W W' : Nat → Int32} (h : eqv n np V W) (hn : n ≤ 6) (hp : np ≤ 4) (hw : ∀ j, j < 40 → W' j = W j) : eqv n np V W' := eqv_iff.mpr (fun j hj => by rw [eqv_iff.mp h j hj, hw j (by unfold rel at hj; omega)])
theorem op_goes (a b : Int32) : Op (fX10_goes 0 a b) (fX11_goes 122 a b) := by
  intro M h
  obtain ⟨n, np, hs, q, g⟩ := h.gm
  have hn6 := g.n6
  have hp4 := g.np6
  unfold fX10_goes fX11_goes fX10_goes_26 fX11_goes_16
  simp only [o_0, o_122, r_0_0, r_1_0, r_1_1, r_122_0, bi1 brd_2, f10_isPlayer, f11_isPlayer, f11_isSide, Option.bind_some, f10_within, f11_in, gx_bd_some, f10_bad, f11_bad', f10_no, f11_no']
  have eB : (badC M).1 123 = M.1 123 := by unfold badC; rw [sI_o (by omega)]
  have eN : (noC M).1 123 = M.1 123 := by unfold noC; rw [sI_o (by omega)]
  by_cases c1 : 0 ≤ a ∧ a ≤ M.1 2 3 - 1
  case neg =>
    rw [b2_f c1, if_pos rfl]
    refine ⟨_, badC M, badR (badC M), rfl, ?_, h.bad⟩
    rw [eB, b2_f (fun z => c1 ((g.pl _).mp z)), if_pos rfl]
  rw [b2_t c1, if_neg (by decide)]
  have c1' := (g.pl _).mpr c1
  by_cases c2 : 1 ≤ b ∧ b ≤ M.1 2 1
  case neg =>
    rw [b2_f c2, if_pos rfl]
    refine ⟨_, badC M, badR (badC M), rfl, ?_, h.bad⟩
    rw [eB, b2_t c1', if_neg (by decide), g.w1, b2_f c2, if_pos rfl]
  rw [b2_t c2, if_neg (by decide)]
  obtain ⟨i, hi, rfl⟩ := g.isP c1
  have hD := g.D
  obtain ⟨r, hr, rfl⟩ := bn_nI (x := b) (n := 6) ⟨by have := t_le.mp c2.1; rw [i1] at this; omega, by have := t_le.mp c2.2; have := hD.2; omega⟩
  have hr1 : 1 ≤ r := by have := t_le.mp c2.1; rw [i1, nI_toInt (by omega)] at this; omega
  rw [c_isHome brd_2 (by omega), gx_bd_some]
  simp only [r_0_0, r_1_0, r_1_1, Option.bind_some, f10_no, gx_bd_some]
  by_cases c3 : M.1 (2 + 6) i = M.1 2 0
  · rw [b2_t c3, if_neg (by decide)]
    refine ⟨_, noC M, noR (noC M), rfl, ?_, h.no⟩
    rw [eN, b2_t c1', if_neg (by decide), g.w1, b2_t c2, if_neg (by decide), show (0 : Int32) = nI 0 from rfl, r_isHome (by omega) (by omega), gx_bd_some, show VR (noC M).1 0 = VR M.1 0 from by unfold VR; rw [eN], b2_t ((g.home hi).mpr c3), if_neg (by decide)]
    simp only [f11_no', gx_bd_some]
  rw [b2_f c3, if_pos rfl, c_landing brd_2 g.1 hi hr1 hr, gx_bd_some]
  obtain ⟨M1, t1, t2, t3⟩ := r_tries M
  have q1 : eqv n np (VC M.1 2) (VR M1.1 812) := eqv_low g.2.1 hn6 hp4 t3
  obtain ⟨M2, u1, u2, u3⟩ := r_rollsTried (M := M1) (i := i) (t := nI r) (eqv_ok q1 g.1) hi
  rw [if_neg (by rw [t3 _ (by omega), t3 _ (by omega)]; exact fun z => c3 ((g.home hi).mp z))] at u2
  refine ⟨_, M, M2, rfl, ?_, h.kp ((t2.kp (by omega)).tr (u3.kp (by omega)))⟩
  rw [b2_t c1', if_neg (by decide), g.w1, b2_t c2, if_neg (by decide), show (0 : Int32) = nI 0 from rfl, r_isHome (by omega) (by omega), gx_bd_some, b2_f (fun z => c3 ((g.home hi).mp z)), if_pos (show (0 : Int32) = nI 0 from rfl), t1, gx_bd_some, u1, gx_bd_some]
  simp only [r_122_0, Option.bind_some, nIl', ra (show 844 + i < 852 by omega)]
  have e : M2.1 123 (844 + i) = VR M2.1 812 (32 + i) := by unfold VR; rw [show 812 + (32 + i) = 844 + i by omega]
  rw [e, u2, thr_at (by omega) hn6, eqv_sq q1 hi]
