/-! digest -/
def hj (M : mm) (y : Int64) : mm := sJ M 122 13 y
theorem hj_1 {M : mm} {y : Int64} : (hj M y).1 = M.1 := rfl
theorem hj_p {M : mm} {y : Int64} : (hj M y).2.2 = M.2.2 := rfl
theorem hj_s {M : mm} {y : Int64} : (hj M y).2.1 122 13 = y := up2_s M.2.1 122 13 y
theorem hj_n {M : mm} {y : Int64} {a j : Nat} (h : ¬ (a = 122 ∧ j = 13)) : (hj M y).2.1 a j = M.2.1 a j := up2_n M.2.1 y h
theorem hj_hj {M : mm} {y z : Int64} : hj (hj M y) z = hj M z := by
  unfold hj sJ
  refine Prod.ext rfl (Prod.ext ?_ rfl)
  funext a j
  show up2 (up2 M.2.1 122 13 y) 122 13 z a j = up2 M.2.1 122 13 z a j
  by_cases c : a = 122 ∧ j = 13
  · rw [c.1, c.2, up2_s, up2_s]
  · rw [up2_n _ _ c, up2_n _ _ c, up2_n _ _ c]
theorem hj_kp {M : mm} {y : Int64} : kp M (hj M y) := by
  refine ⟨rfl, ?_, hj_n (by omega), hj_n (by omega), fun _ _ => rfl, rfl, rfl, fun _ _ => rfl⟩
  funext j
  exact hj_n (by omega)
theorem r_mix (M : mm) (y x : Int64) : fX11_mix 122 x (lay (hj M y)) = some ((), lay (hj M (31 * y + x))) := by
  unfold fX11_mix
  rw [o_122, Option.bind_some, j_122_13, Option.bind_some, pj_122_13, Option.bind_some, hj_s]
  rw [show sJ (hj M y) 122 13 (31 * y + x) = hj M (31 * y + x) from hj_hj]
def fm (f : Nat → Int32) : Nat → Nat → Int64 → Int64
  | 0, _, acc => acc
  | m + 1, i, acc => fm f m (i + 1) (31 * acc + (f i).toInt64)
theorem r_mixes_l {M : mm} {p n : Nat} (hp : p + n ≤ 852) : ∀ (m i F : Nat) (acc : Int64), i + m = n → m < F → fX11_mixes_2 F 122 (nI p) (nI n) (nI i) (lay (hj M acc)) = some ((), lay (hj M (fm (fun i => M.1 123 (p + i)) m i acc)))
  | m, i, 0, acc, _, hF => by omega
  | 0, i, F + 1, acc, hi, _ => by
    show bX11_mixes_2 (fX11_mixes_2 F) 122 (nI p) (nI n) (nI i) (lay (hj M acc)) = _
    unfold bX11_mixes_2
    rw [if_pos (nI_le (by omega) (by omega))]
    rfl
  | m + 1, i, F + 1, acc, hi, hF => by
    show bX11_mixes_2 (fX11_mixes_2 F) 122 (nI p) (nI n) (nI i) (lay (hj M acc)) = _
    unfold bX11_mixes_2
    rw [if_neg (nI_ge (by omega) (by omega)), r_122_0, Option.bind_some, nI_add, ra (by omega), Option.bind_some, r_mix, gx_bd_some, nI_1, hj_1]
    exact r_mixes_l hp m (i + 1) F _ (by omega) (by omega)
theorem r_mixes {M : mm} {p n : Nat} (hp : p + n ≤ 852) (acc : Int64) : fX11_mixes 122 (nI p) (nI n) (lay (hj M acc)) = some ((), lay (hj M (fm (fun i => M.1 123 (p + i)) n 0 acc))) := by
  unfold fX11_mixes
  rw [o_122, Option.bind_some]
  exact r_mixes_l hp n 0 gx_N acc (by omega) (by unfold gx_N; omega)
/-- notes, marks: the class takes four at a time -/
theorem c_sdig_l {M : mm} {s p n : Nat} (h : snb s) (hn : M.1 s 0 = nI n) (h6 : n ≤ 6) (hw : ∀ e, e < n → M.1 (s + 1) e = M.1 123 (p + 1 + 4 * e) ∧ M.1 (s + 2) e = M.1 123 (p + 2 + 4 * e) ∧ M.1 (s + 3) e = M.1 123 (p + 3 + 4 * e) ∧ M.1 (s + 4) e = M.1 123 (p + 4 + 4 * e)) : ∀ (m i F : Nat) (acc : Int64), i + m = n → m < F → fX7_digestOn_5 F s acc (nI i) (lay M) = some (fm (fun j => M.1 123 (p + 1 + j)) (4 * m) (4 * i) acc, lay M)
  | m, i, 0, acc, _, hF => by omega
  | 0, i, F + 1, acc, hi, _ => by
    show bX7_digestOn_5 (fX7_digestOn_5 F) s acc (nI i) (lay M) = _
    unfold bX7_digestOn_5
    rw [fI_lay (kd_5_0 h.1), Option.bind_some, hn, if_pos (nI_le (by omega) (by omega))]
    rfl
  | m + 1, i, F + 1, acc, hi, hF => by
    show bX7_digestOn_5 (fX7_digestOn_5 F) s acc (nI i) (lay M) = _
    unfold bX7_digestOn_5
    have h6' : i < 6 := by omega
    rw [fI_lay (kd_5_0 h.1), Option.bind_some, hn, if_neg (nI_ge (by omega) (by omega)), fR_lay (kd_5_1 h.1), Option.bind_some, aI_lay 6 h.2.1 (by decide) h6' (by decide), Option.bind_some, fR_lay (kd_5_2 h.1), Option.bind_some, aI_lay 6 h.2.2.1 (by decide) h6' (by decide), Option.bind_some, fR_lay (kd_5_3 h.1), Option.bind_some, aI_lay 6 h.2.2.2.1 (by decide) h6' (by decide), Option.bind_some, fR_lay (kd_5_4 h.1), Option.bind_some, aI_lay 6 h.2.2.2.2 (by decide) h6' (by decide), Option.bind_some, nI_1]
    obtain ⟨w1, w2, w3, w4⟩ := hw i (by omega)
    rw [w1, w2, w3, w4, c_sdig_l h hn h6 hw m (i + 1) F _ (by omega) (by omega)]
    rw [show 4 * (m + 1) = 4 * m + 1 + 1 + 1 + 1 by omega]
    show _ = some (fm (fun j => M.1 123 (p + 1 + j)) (4 * m) (4 * i + 1 + 1 + 1 + 1) (31 * (31 * (31 * (31 * acc + (M.1 123 (p + 1 + 4 * i)).toInt64) + (M.1 123 (p + 1 + (4 * i + 1))).toInt64) + (M.1 123 (p + 1 + (4 * i + 1 + 1))).toInt64) + (M.1 123 (p + 1 + (4 * i + 1 + 1 + 1))).toInt64), lay M)
    rw [show p + 1 + (4 * i + 1) = p + 2 + 4 * i by omega, show p + 1 + (4 * i + 1 + 1) = p + 3 + 4 * i by omega, show p + 1 + (4 * i + 1 + 1 + 1) = p + 4 + 4 * i by omega, show 4 * i + 1 + 1 + 1 + 1 = 4 * (i + 1) by omega]
/-- the ends of both digests -/
theorem dig_end {M : mm} (h : Inv M) {np : Nat} (h3 : M.1 2 3 = nI np) (w3 : M.1 123 3 = nI np) (h4 : np ≤ 4) (hw : ∀ i, i < np → M.1 (2 + 5) i = M.1 123 (28 + i) ∧ M.1 (2 + 6) i = M.1 123 (32 + i) ∧ M.1 (2 + 7) i = M.1 123 (36 + i)) : ∀ (m i F F' : Nat) (acc : Int64), i + m = np → m < F → m < F' → ∃ y z, fX1_digestOn_98 F 1 acc (nI i) (lay M) = some (y, lay M) ∧ z = 31 * (31 * y + M.2.1 0 6) + M.2.1 0 7 ∧ fX11_digest_106 F' 122 (nI i) (lay (hj M acc)) = some (z, lay (hj M z))
  | m, i, 0, _, acc, _, hF, _ => by omega
  | m, i, F + 1, 0, acc, _, _, hF => by omega
  | 0, i, F + 1, F' + 1, acc, hi, _, _ => by
    obtain ⟨n, np', hs, q, g⟩ := h.gm
    obtain ⟨mn, q1, n2, n3, n4, _⟩ := g.2.2.1
    obtain ⟨mk, q2, k2, k3, k4, _⟩ := g.2.2.2.1
    simp only [VR0] at n3 k3 n4 k4
    have s20 : snb 20 := by unfold snb; decide
    have s25 : snb 25 := by unfold snb; decide
    have d1 : ∀ acc, fX7_digestOn 20 acc (lay M) = some (fm (fun j => M.1 123 (40 + 1 + j)) (4 * mn) 0 acc, lay M) := fun acc => by
      unfold fX7_digestOn
      rw [o_20, Option.bind_some]
      exact c_sdig_l (s := 20) (p := 40) s20 n2 q1 n4 mn 0 gx_N acc (by omega) (by unfold gx_N; omega)
    have d2 : ∀ acc, fX7_digestOn 25 acc (lay M) = some (fm (fun j => M.1 123 (65 + 1 + j)) (4 * mk) 0 acc, lay M) := fun acc => by
      unfold fX7_digestOn
      rw [o_25, Option.bind_some]
      exact c_sdig_l (s := 25) (p := 65) s25 k2 q2 k4 mk 0 gx_N acc (by omega) (by unfold gx_N; omega)
    refine ⟨fm (fun j => M.1 123 (65 + 1 + j)) (4 * mk) 0 (fm (fun j => M.1 123 (40 + 1 + j)) (4 * mn) 0 acc), _, ?_, rfl, ?_⟩
    · show bX1_digestOn_98 (fX1_digestOn_98 F) 1 acc (nI i) (lay M) = _
      unfold bX1_digestOn_98
      rw [r_1_0, Option.bind_some, bi3 brd_2, Option.bind_some, h3, if_pos (nI_le (by omega) (by omega)), r_1_3, Option.bind_some, r_1_2, Option.bind_some, d1, gx_bd_some, d2, gx_bd_some]
    · show bX11_digest_106 (fX11_digest_106 F') 122 (nI i) (lay (hj M acc)) = _
      unfold bX11_digest_106
      rw [r_122_0, Option.bind_some, show (3 : Int32) = nI 3 from rfl, ra (by omega), Option.bind_some, hj_1, w3, if_pos (nI_le (by omega) (by omega)), Option.bind_some, show (40 : Int32) = nI 40 from rfl, ra (by omega), Option.bind_some, hj_1, n3, show (4 : Int32) * nI mn = nI (4 * mn) from by rw [show (4 : Int32) = nI 4 from rfl, pk_mul], show (41 : Int32) = nI (40 + 1) from rfl, r_mixes (by omega), gx_bd_some, r_122_0, Option.bind_some, show (65 : Int32) = nI 65 from rfl, ra (by omega), Option.bind_some, hj_1, k3, show (4 : Int32) * nI mk = nI (4 * mk) from by rw [show (4 : Int32) = nI 4 from rfl, pk_mul], show (66 : Int32) = nI (65 + 1) from rfl, r_mixes (by omega), gx_bd_some, j_122_4, Option.bind_some, r_mix, gx_bd_some, j_122_5, Option.bind_some, r_mix, gx_bd_some, j_122_13, Option.bind_some, hj_s, hj_n (by omega), hj_n (by omega), ← h.2.2.2.2.1.1, ← h.2.2.2.2.1.2]
  | m + 1, i, F + 1, F' + 1, acc, hi, hF, hF' => by
    obtain ⟨w1, w2, w3'⟩ := hw i (by omega)
    have hi4 : i < 4 := by omega
    obtain ⟨y, z, e1, e2, e3⟩ := dig_end h h3 w3 h4 hw m (i + 1) F F' (31 * (31 * (31 * acc + (M.1 123 (28 + i)).toInt64) + (M.1 123 (32 + i)).toInt64) + (M.1 123 (36 + i)).toInt64) (by omega) (by omega) (by omega)
    refine ⟨y, z, ?_, e2, ?_⟩
    · show bX1_digestOn_98 (fX1_digestOn_98 F) 1 acc (nI i) (lay M) = _
      unfold bX1_digestOn_98
      rw [r_1_0, Option.bind_some, bi3 brd_2, Option.bind_some, h3, if_neg (nI_ge (by omega) (by omega)), Option.bind_some, br8 brd_2, Option.bind_some, ba5 brd_2 hi4, Option.bind_some, Option.bind_some, br9 brd_2, Option.bind_some, ba6 brd_2 hi4, Option.bind_some, Option.bind_some, br10 brd_2, Option.bind_some, ba7 brd_2 hi4, Option.bind_some, nI_1, w1, w2, w3']
      exact e1
    · show bX11_digest_106 (fX11_digest_106 F') 122 (nI i) (lay (hj M acc)) = _
      unfold bX11_digest_106
      rw [r_122_0, Option.bind_some, show (3 : Int32) = nI 3 from rfl, ra (by omega), Option.bind_some, hj_1, w3, if_neg (nI_ge (by omega) (by omega)), Option.bind_some, nIl', ra (by omega), Option.bind_some, r_mix, gx_bd_some, r_122_0, Option.bind_some, nIl', ra (by omega), Option.bind_some, r_mix, gx_bd_some, r_122_0, Option.bind_some, nIl', ra (by omega), Option.bind_some, r_mix, gx_bd_some, nI_1, hj_1, hj_1, hj_1]
      exact e3
/-- the links -/
theorem dig_links {M : mm} (h : Inv M) {n np : Nat} (h2 : M.1 2 2 = nI n) (w2 : M.1 123 2 = nI n) (h6 : n ≤ 6) (h3 : M.1 2 3 = nI np) (w3 : M.1 123 3 = nI np) (h4 : np ≤ 4) (hw : ∀ i, i < np → M.1 (2 + 5) i = M.1 123 (28 + i) ∧ M.1 (2 + 6) i = M.1 123 (32 + i) ∧ M.1 (2 + 7) i = M.1 123 (36 + i)) (hl : ∀ k, k < n → M.1 (2 + 1) k = M.1 123 (4 + k) ∧ M.1 (2 + 2) k = M.1 123 (10 + k) ∧ M.1 (2 + 3) k = M.1 123 (16 + k) ∧ M.1 (2 + 4) k = M.1 123 (22 + k)) : ∀ (m i F F' : Nat) (acc : Int64), i + m = n → m < F → m < F' → ∃ y z, fX1_digestOn_5 F 1 acc (nI i) (lay M) = some (y, lay M) ∧ z = 31 * (31 * y + M.2.1 0 6) + M.2.1 0 7 ∧ fX11_digest_33 F' 122 (nI i) (lay (hj M acc)) = some (z, lay (hj M z))
  | m, i, 0, _, acc, _, hF, _ => by omega
  | m, i, F + 1, 0, acc, _, _, hF => by omega
  | 0, i, F + 1, F' + 1, acc, hi, _, _ => by
    obtain ⟨y, z, e1, e2, e3⟩ := dig_end h h3 w3 h4 hw np 0 gx_N gx_N acc (by omega) (by unfold gx_N; omega) (by unfold gx_N; omega)
    refine ⟨y, z, ?_, e2, ?_⟩
    · show bX1_digestOn_5 (fX1_digestOn_5 F) 1 acc (nI i) (lay M) = _
      unfold bX1_digestOn_5
      rw [r_1_0, Option.bind_some, bi2 brd_2, Option.bind_some, h2, if_pos (nI_le (by omega) (by omega))]
      exact e1
    · show bX11_digest_33 (fX11_digest_33 F') 122 (nI i) (lay (hj M acc)) = _
      unfold bX11_digest_33
      rw [r_122_0, Option.bind_some, show (2 : Int32) = nI 2 from rfl, ra (by omega), Option.bind_some, hj_1, w2, if_pos (nI_le (by omega) (by omega))]
      exact e3
  | m + 1, i, F + 1, F' + 1, acc, hi, hF, hF' => by
    obtain ⟨w1, w2', w3', w4'⟩ := hl i (by omega)
    have hi6 : i < 6 := by omega
    obtain ⟨y, z, e1, e2, e3⟩ := dig_links h h2 w2 h6 h3 w3 h4 hw hl m (i + 1) F F' (31 * (31 * (31 * (31 * acc + (M.1 123 (4 + i)).toInt64) + (M.1 123 (10 + i)).toInt64) + (M.1 123 (16 + i)).toInt64) + (M.1 123 (22 + i)).toInt64) (by omega) (by omega) (by omega)
    refine ⟨y, z, ?_, e2, ?_⟩
    · show bX1_digestOn_5 (fX1_digestOn_5 F) 1 acc (nI i) (lay M) = _
      unfold bX1_digestOn_5
      rw [r_1_0, Option.bind_some, bi2 brd_2, Option.bind_some, h2, if_neg (nI_ge (by omega) (by omega)), Option.bind_some, br4 brd_2, Option.bind_some, ba1 brd_2 hi6, Option.bind_some, Option.bind_some, br5 brd_2, Option.bind_some, ba2 brd_2 hi6, Option.bind_some, Option.bind_some, br6 brd_2, Option.bind_some, ba3 brd_2 hi6, Option.bind_some, Option.bind_some, br7 brd_2, Option.bind_some, ba4 brd_2 hi6, Option.bind_some, nI_1, w1, w2', w3', w4']
      exact e1
    · show bX11_digest_33 (fX11_digest_33 F') 122 (nI i) (lay (hj M acc)) = _
      unfold bX11_digest_33
      rw [r_122_0, Option.bind_some, show (2 : Int32) = nI 2 from rfl, ra (by omega), Option.bind_some, hj_1, w2, if_neg (nI_ge (by omega) (by omega)), Option.bind_some, nIl', ra (by omega), Option.bind_some, r_mix, gx_bd_some, r_122_0, Option.bind_some, nIl', ra (by omega), Option.bind_some, r_mix, gx_bd_some, r_122_0, Option.bind_some, nIl', ra (by omega), Option.bind_some, r_mix, gx_bd_some, r_122_0, Option.bind_some, nIl', ra (by omega), Option.bind_some, r_mix, gx_bd_some, nI_1, hj_1, hj_1, hj_1, hj_1]
      exact e3
theorem dig_all {M : mm} (h : Inv M) : ∀ (m k F F' : Nat) (acc : Int64), k + m = 11 → m < F → m < F' → ∃ z, fX10_digest_6 F 0 acc (nI k) (lay M) = some (z, lay M) ∧ fX11_digest_9 F' 122 (nI k) (lay (hj M acc)) = some (z, lay (hj M z))
  | m, k, 0, _, acc, _, hF, _ => by omega
  | m, k, F + 1, 0, acc, _, _, hF => by omega
  | 0, k, F + 1, F' + 1, acc, hk, _, _ => by
    obtain ⟨n, np, hs, q, g⟩ := h.gm
    have hn6 := g.n6
    have hp4 := g.np6
    obtain ⟨y, z, e1, e2, e3⟩ := dig_links h g.nn (by rw [g.w2]; exact g.nn) hn6 g.pp (by rw [g.w3]; exact g.pp) hp4 (fun i hi => by
      obtain ⟨x1, x2, x3⟩ := g.2.1.2.2.2.2.2 i hi
      rw [VC_5 _ _ (by omega), VR0] at x1
      rw [VC_6 _ _ (by omega), VR0] at x2
      rw [VC_7 _ _ (by omega), VR0] at x3
      exact ⟨x1, x2, x3⟩) (fun i hi => by
      obtain ⟨x1, x2, x3, x4⟩ := g.2.1.2.2.2.2.1 i hi
      rw [VC_1 _ _ (by omega), VR0] at x1
      rw [VC_2 _ _ (by omega), VR0] at x2
      rw [VC_3 _ _ (by omega), VR0] at x3
      rw [VC_4 _ _ (by omega), VR0] at x4
      exact ⟨x1, x2, x3, x4⟩) n 0 gx_N gx_N acc (by omega) (by unfold gx_N; omega) (by unfold gx_N; omega)
    refine ⟨z, ?_, ?_⟩
    · show bX10_digest_6 (fX10_digest_6 F) 0 acc (nI k) (lay M) = _
      unfold bX10_digest_6
      have hd : fX1_digestOn 1 acc (lay M) = some (y, lay M) := by
        unfold fX1_digestOn
        rw [o_1, Option.bind_some]
        exact e1
      rw [if_pos (show (10 : Int32) < nI k from nI_lt (a := 10) (by omega) (by omega)), r_0_0, Option.bind_some, hd, gx_bd_some, j_0_6, Option.bind_some, j_0_7, Option.bind_some, e2]
    · show bX11_digest_9 (fX11_digest_9 F') 122 (nI k) (lay (hj M acc)) = _
      unfold bX11_digest_9
      rw [if_pos (show (11 : Int32) ≤ nI k from nI_le (a := 11) (by omega) (by omega))]
      exact e3
  | m + 1, k, F + 1, F' + 1, acc, hk, hF, hF' => by
    obtain ⟨x, x1, x2⟩ := amounts (M1 := hj M acc) h rfl (show k ≤ 10 by omega)
    obtain ⟨z, e1, e2⟩ := dig_all h m (k + 1) F F' (31 * acc + x.toInt64) (by omega) (by omega) (by omega)
    refine ⟨z, ?_, ?_⟩
    · show bX10_digest_6 (fX10_digest_6 F) 0 acc (nI k) (lay M) = _
      unfold bX10_digest_6
      rw [if_neg (show ¬ (10 : Int32) < nI k from by rw [t_lt, nI_toInt (by omega)]; show ¬ (10 : Int) < k; omega), x1, gx_bd_some, nI_1]
      exact e1
    · show bX11_digest_9 (fX11_digest_9 F') 122 (nI k) (lay (hj M acc)) = _
      unfold bX11_digest_9
      rw [if_neg (show ¬ (11 : Int32) ≤ nI k from nI_ge (b := 11) (by omega) (by omega)), x2, gx_bd_some, r_mix, gx_bd_some, nI_1]
      exact e2
theorem op_digest : Op (fX10_digest 0) (fX11_digest 122) := by
  intro M h
  obtain ⟨z, e1, e2⟩ := dig_all h 11 0 gx_N gx_N 1831 (by omega) (by unfold gx_N; omega) (by unfold gx_N; omega)
  refine ⟨z, M, hj M z, ?_, ?_, h.kp hj_kp⟩
  · unfold fX10_digest
    rw [o_0, Option.bind_some]
    exact e1
  · unfold fX11_digest
    rw [o_122, Option.bind_some, pj_122_13, Option.bind_some]
    exact e2
