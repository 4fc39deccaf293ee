/-! count -/
def sumV (f : Nat → Int32) : Nat → Nat → Int32 → Int32
  | 0, _, acc => acc
  | m + 1, i, acc => sumV f m (i + 1) (acc + f i)
theorem sumV_eq {f g : Nat → Int32} : ∀ (m i : Nat) (acc : Int32), (∀ j, i ≤ j → j < i + m → f j = g j) → sumV f m i acc = sumV g m i acc
  | 0, _, _, _ => rfl
  | m + 1, i, acc, h => by
    unfold sumV
    rw [h i (by omega) (by omega)]
    exact sumV_eq m (i + 1) _ (fun j h1 h2 => h j (by omega) (by omega))
theorem c_thrown_l {M : mm} {b np : Nat} (hb : brd b) (h3 : M.1 b 3 = nI np) (h4 : np ≤ 4) : ∀ (m i F : Nat) (acc : Int32), i + m = np → m < F → fX0_thrownByAll_4 F b acc (nI i) (lay M) = some (sumV (fun i => VC M.1 b (36 + i)) m i acc, lay M)
  | m, i, 0, acc, _, hF => by omega
  | 0, i, F + 1, acc, hi, _ => by
    show bX0_thrownByAll_4 (fX0_thrownByAll_4 F) b acc (nI i) (lay M) = _
    unfold bX0_thrownByAll_4
    rw [bi3 hb, Option.bind_some, h3, if_pos (nI_le (by omega) (by omega))]
    rfl
  | m + 1, i, F + 1, acc, hi, hF => by
    show bX0_thrownByAll_4 (fX0_thrownByAll_4 F) b acc (nI i) (lay M) = _
    unfold bX0_thrownByAll_4
    rw [bi3 hb, Option.bind_some, h3, if_neg (nI_ge (by omega) (by omega)), br10 hb, Option.bind_some, ba7 hb (by omega), Option.bind_some, nI_1, ← VC_7 M.1 b (by omega)]
    exact c_thrown_l hb h3 h4 m (i + 1) F _ (by omega) (by omega)
theorem c_used_l {M : mm} {b n : Nat} (hb : brd b) (h2 : M.1 b 2 = nI n) (h6 : n ≤ 6) : ∀ (m i F : Nat) (acc : Int32), i + m = n → m < F → fX0_usedOfAll_4 F b acc (nI i) (lay M) = some (sumV (fun i => VC M.1 b (22 + i)) m i acc, lay M)
  | m, i, 0, acc, _, hF => by omega
  | 0, i, F + 1, acc, hi, _ => by
    show bX0_usedOfAll_4 (fX0_usedOfAll_4 F) b acc (nI i) (lay M) = _
    unfold bX0_usedOfAll_4
    rw [bi2 hb, Option.bind_some, h2, if_pos (nI_le (by omega) (by omega))]
    rfl
  | m + 1, i, F + 1, acc, hi, hF => by
    show bX0_usedOfAll_4 (fX0_usedOfAll_4 F) b acc (nI i) (lay M) = _
    unfold bX0_usedOfAll_4
    rw [bi2 hb, Option.bind_some, h2, if_neg (nI_ge (by omega) (by omega)), br7 hb, Option.bind_some, ba4 hb (by omega), Option.bind_some, nI_1, ← VC_4 M.1 b (by omega)]
    exact c_used_l hb h2 h6 m (i + 1) F _ (by omega) (by omega)
theorem r_sumOf_l {M : mm} {p n : Nat} (hp : p + n ≤ 852) : ∀ (m i F : Nat) (acc : Int32), i + m = n → m < F → fX11_sumOf_5 F 122 (nI p) (nI n) acc (nI i) (lay M) = some (sumV (fun i => M.1 123 (p + i)) m i acc, lay M)
  | m, i, 0, acc, _, hF => by omega
  | 0, i, F + 1, acc, hi, _ => by
    show bX11_sumOf_5 (fX11_sumOf_5 F) 122 (nI p) (nI n) acc (nI i) (lay M) = _
    unfold bX11_sumOf_5
    rw [if_pos (nI_le (by omega) (by omega))]
    rfl
  | m + 1, i, F + 1, acc, hi, hF => by
    show bX11_sumOf_5 (fX11_sumOf_5 F) 122 (nI p) (nI n) acc (nI i) (lay M) = _
    unfold bX11_sumOf_5
    rw [if_neg (nI_ge (by omega) (by omega)), r_122_0, Option.bind_some, nI_add, ra (by omega), Option.bind_some, nI_1]
    exact r_sumOf_l hp m (i + 1) F _ (by omega) (by omega)
theorem r_sumOf {M : mm} {p n : Nat} (hp : p + n ≤ 852) (hn : n ≤ 100) : fX11_sumOf 122 (nI p) (nI n) (lay M) = some (sumV (fun i => M.1 123 (p + i)) n 0 0, lay M) := by
  unfold fX11_sumOf
  rw [o_122, Option.bind_some]
  exact r_sumOf_l hp n 0 gx_N 0 (by omega) (by unfold gx_N; omega)
theorem amounts {M M1 : mm} (h : Inv M) (e : M1.1 = M.1) {k : Nat} (hk : k ≤ 10) : ∃ x, fX10_amount 0 (nI k) (lay M) = some (x, lay M) ∧ fX11_countOf 122 (nI k) (lay M1) = some (x, lay M1) := by
  obtain ⟨n, np, hs, q, g⟩ := h.gm
  obtain ⟨tx, _, x2, x3, _⟩ := h.2.2.2.1
  have hn6 := g.n6
  have hp4 := g.np6
  obtain ⟨mn, _, n2, n3, _⟩ := g.2.2.1
  obtain ⟨mk, _, k2, k3, _⟩ := g.2.2.2.1
  rw [VR0] at n3 k3
  have n2' : M.1 20 0 = nI mn := n2
  have k2' : M.1 25 0 = nI mk := k2
  have W : VR M1.1 0 = VR M.1 0 := by rw [e]
  unfold fX10_amount fX11_countOf
  simp only [o_0, o_122, r_0_0, r_1_0, r_1_1, r_1_2, r_1_3, r_0_3, r_122_0, bi0 brd_2, bi1 brd_2, bi2 brd_2, bi3 brd_2, i_20_0, i_25_0, i_10_0, i_90_0, i_122_3, Option.bind_some]
  rcases (show k = 0 ∨ k = 1 ∨ k = 2 ∨ k = 3 ∨ k = 4 ∨ k = 5 ∨ k = 6 ∨ k = 7 ∨ k = 8 ∨ k = 9 ∨ k = 10 by omega) with rfl | rfl | rfl | rfl | rfl | rfl | rfl | rfl | rfl | rfl | rfl
  · refine ⟨M.1 2 0, rfl, ?_⟩
    rw [if_pos (show nI 0 = 0 from rfl), show (0 : Int32) = nI 0 from rfl, ra (by omega), Option.bind_some, e, g.w0]
  · refine ⟨M.1 2 1, rfl, ?_⟩
    rw [if_neg (by decide), if_pos (show nI 1 = 1 from rfl), show (1 : Int32) = nI 1 from rfl, ra (by omega), Option.bind_some, e, g.w1]
  · refine ⟨M.1 2 2, rfl, ?_⟩
    rw [if_neg (by decide), if_neg (by decide), if_pos (show nI 2 = 2 from rfl), show (2 : Int32) = nI 2 from rfl, ra (by omega), Option.bind_some, e, g.w2]
  · refine ⟨M.1 2 3, rfl, ?_⟩
    rw [if_neg (by decide), if_neg (by decide), if_neg (by decide), if_pos (show nI 3 = 3 from rfl), show (3 : Int32) = nI 3 from rfl, ra (by omega), Option.bind_some, e, g.w3]
  · refine ⟨cntH (VC M.1 2) np 0 0, ?_, ?_⟩
    · rw [if_neg (by decide), if_neg (by decide), if_neg (by decide), if_neg (by decide), if_pos (show nI 4 = 4 from rfl), c_homes brd_2 g.pp hp4, gx_bd_some]
    · have hh : fX11_homes 122 0 (lay M1) = _ := r_homes (M := M1) (r := 0) (by omega) (by rw [W, ← g.2.1.2.2.2.1]; exact g.1.2.2.1) hp4
      rw [if_neg (by decide), if_neg (by decide), if_neg (by decide), if_neg (by decide), if_pos (show nI 4 = 4 from rfl), hh, gx_bd_some, W, eqv_cnt g.2.1]
  · refine ⟨sumV (fun i => VC M.1 2 (36 + i)) np 0 0, ?_, ?_⟩
    · have hh : fX0_thrownByAll 2 (lay M) = some (sumV (fun i => VC M.1 2 (36 + i)) np 0 0, lay M) := by
        unfold fX0_thrownByAll
        rw [bo brd_2, Option.bind_some]
        exact c_thrown_l brd_2 g.pp hp4 np 0 gx_N 0 (by omega) (by unfold gx_N; omega)
      rw [if_neg (by decide), if_neg (by decide), if_neg (by decide), if_neg (by decide), if_neg (by decide), if_pos (show nI 5 = 5 from rfl), hh, gx_bd_some]
    · rw [if_neg (by decide), if_neg (by decide), if_neg (by decide), if_neg (by decide), if_neg (by decide), if_pos (show nI 5 = 5 from rfl), show (3 : Int32) = nI 3 from rfl, ra (by omega), Option.bind_some, e, g.w3, g.pp, show (36 : Int32) = nI 36 from rfl, r_sumOf (by omega) (by omega), gx_bd_some, e]
      rw [sumV_eq np 0 0 (fun j _ h2 => show M.1 123 (36 + j) = VC M.1 2 (36 + j) from by rw [← VR0 M.1, (g.2.1.2.2.2.2.2 j (by omega)).2.2])]
  · refine ⟨sumV (fun i => VC M.1 2 (22 + i)) n 0 0, ?_, ?_⟩
    · have hh : fX0_usedOfAll 2 (lay M) = some (sumV (fun i => VC M.1 2 (22 + i)) n 0 0, lay M) := by
        unfold fX0_usedOfAll
        rw [bo brd_2, Option.bind_some]
        exact c_used_l brd_2 g.nn hn6 n 0 gx_N 0 (by omega) (by unfold gx_N; omega)
      rw [if_neg (by decide), if_neg (by decide), if_neg (by decide), if_neg (by decide), if_neg (by decide), if_neg (by decide), if_pos (show nI 6 = 6 from rfl), hh, gx_bd_some]
    · rw [if_neg (by decide), if_neg (by decide), if_neg (by decide), if_neg (by decide), if_neg (by decide), if_neg (by decide), if_pos (show nI 6 = 6 from rfl), show (2 : Int32) = nI 2 from rfl, ra (by omega), Option.bind_some, e, g.w2, g.nn, show (22 : Int32) = nI 22 from rfl, r_sumOf (by omega) (by omega), gx_bd_some, e]
      rw [sumV_eq n 0 0 (fun j _ h2 => show M.1 123 (22 + j) = VC M.1 2 (22 + j) from by rw [← VR0 M.1, (g.2.1.2.2.2.2.1 j (by omega)).2.2.2])]
  · refine ⟨nI mn, ?_, ?_⟩
    · rw [if_neg (by decide), if_neg (by decide), if_neg (by decide), if_neg (by decide), if_neg (by decide), if_neg (by decide), if_neg (by decide), if_pos (show nI 7 = 7 from rfl), n2']
    · rw [if_neg (by decide), if_neg (by decide), if_neg (by decide), if_neg (by decide), if_neg (by decide), if_neg (by decide), if_neg (by decide), if_pos (show nI 7 = 7 from rfl), show (40 : Int32) = nI 40 from rfl, ra (by omega), Option.bind_some, e, n3]
  · refine ⟨nI mk, ?_, ?_⟩
    · rw [if_neg (by decide), if_neg (by decide), if_neg (by decide), if_neg (by decide), if_neg (by decide), if_neg (by decide), if_neg (by decide), if_neg (by decide), if_pos (show nI 8 = 8 from rfl), k2']
    · rw [if_neg (by decide), if_neg (by decide), if_neg (by decide), if_neg (by decide), if_neg (by decide), if_neg (by decide), if_neg (by decide), if_neg (by decide), if_pos (show nI 8 = 8 from rfl), show (65 : Int32) = nI 65 from rfl, ra (by omega), Option.bind_some, e, k3]
  · refine ⟨nI hs, ?_, ?_⟩
    · rw [if_neg (by decide), if_neg (by decide), if_neg (by decide), if_neg (by decide), if_neg (by decide), if_neg (by decide), if_neg (by decide), if_neg (by decide), if_neg (by decide), if_pos (show nI 9 = 9 from rfl), g.2.2.2.2.2.1]
    · rw [if_neg (by decide), if_neg (by decide), if_neg (by decide), if_neg (by decide), if_neg (by decide), if_neg (by decide), if_neg (by decide), if_neg (by decide), if_neg (by decide), if_pos (show nI 9 = 9 from rfl), show (90 : Int32) = nI 90 from rfl, ra (by omega), Option.bind_some, e, g.2.2.2.2.2.2.1]
  · refine ⟨nI tx, ?_, ?_⟩
    · rw [if_neg (by decide), if_neg (by decide), if_neg (by decide), if_neg (by decide), if_neg (by decide), if_neg (by decide), if_neg (by decide), if_neg (by decide), if_neg (by decide), if_neg (by decide), x2]
    · rw [if_neg (by decide), if_neg (by decide), if_neg (by decide), if_neg (by decide), if_neg (by decide), if_neg (by decide), if_neg (by decide), if_neg (by decide), if_neg (by decide), if_neg (by decide), e, x3]
theorem op_count (a : Int32) : Op (fX10_count 0 a) (fX11_count 122 a) := by
  intro M h
  unfold fX10_count fX11_count fX10_count_24 fX11_count_26
  simp only [o_0, o_122, Option.bind_some, f10_within, f11_in, gx_bd_some, f10_bad, f11_bad', show (0 : Int64) = (0 : Int32).toInt64 from rfl, show (10 : Int64) = (10 : Int32).toInt64 from rfl, b_le]
  by_cases c1 : 0 ≤ a ∧ a ≤ 10
  case neg =>
    rw [b2_f c1, if_pos rfl]
    refine ⟨_, badC M, badR (badC M), rfl, ?_, h.bad⟩
    rw [if_pos rfl]
  rw [b2_t c1, if_neg (by decide)]
  obtain ⟨k, _, hk, rfl⟩ := in_n (a := 0) (b := 10) (by omega) c1 (by omega)
  obtain ⟨x, e1, e2⟩ := amounts (M1 := M) h rfl hk
  refine ⟨x, M, M, ?_, ?_, h⟩
  · rw [e1, gx_bd_some]
  · rw [if_neg (by decide), e2, gx_bd_some]
