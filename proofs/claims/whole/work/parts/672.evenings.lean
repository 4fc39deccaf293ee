/-! evenings: throws by a seed -/
section EV
variable {d n np : Nat}
/-- the Step of a throw, or of none -/
def stoH (M : mm) (V : Nat → Int32) (n i r t : Nat) : Prop := ∃ lk, M.1 (111 + t) 0 = nI i ∧ M.1 (111 + t) 1 = V (32 + i) ∧ M.1 (111 + t) 2 = V (36 + i) ∧ M.1 (111 + t) 3 = lkI lk ∧ (∀ k, lk = some k → k < n) ∧ tb (one n i V r) i (V (32 + i)) (V (36 + i)) lk (M.1 (111 + t) 4) = V
theorem c_mvh {M : mm} {i r t : Nat} (h : okV (VC M.1 102) n np) (hi : i < np) (h1 : 1 ≤ r) (h6 : r ≤ 6) (ht : t < 5) : ∃ M', fX5_moveUnlessHome 101 (nI i) (nI r) (111 + t) (lay M) = some ((), lay M') ∧ VC M'.1 102 = one n i (VC M.1 102) r ∧ stoH M' (VC M.1 102) n i r t ∧ fr (inBS 102 (111 + t)) M M' := by
  have h4 : i < 4 := Nat.lt_of_lt_of_le hi h.2.2.2.1
  unfold fX5_moveUnlessHome fX5_moveUnlessHome_33 stoH one
  rw [o_101, Option.bind_some, r_101_0, Option.bind_some, c_home h4, gx_bd_some]
  by_cases c : VC M.1 102 (32 + i) = VC M.1 102 0
  · obtain ⟨M', a1, a2, a3, a4, a5, a6⟩ := c_remember (M := M) (b := 102) (s := 111 + t) brd_102 (so_C ht) (by omega) h4
    rw [b2_t c, if_neg (by decide), r_101_0, Option.bind_some, a1, gx_bd_some, if_pos c]
    refine ⟨M', rfl, a6.V (fun x h1 h2 z => by omega), ⟨none, a2, a3, a4, a5, (fun k hk => by cases hk), ?_⟩, a6.mono (fun x hx => Or.inr hx)⟩
    show upd (upd (VC M.1 102) (32 + i) _) (36 + i) _ = _
    rw [upd_self (VC M.1 102) rfl, upd_self _ rfl]
  · obtain ⟨M', a1, a2, a3, a4⟩ := c_mv (M := M) h hi h1 h6 ht
    rw [b2_f c, if_pos (show (0 : Int32) = 0 from rfl), r_101_0, Option.bind_some, a1, gx_bd_some, if_neg c]
    obtain ⟨s0, s1, s2, s3, s4⟩ := a3
    exact ⟨M', rfl, a2, ⟨metV (VC M.1 102) n i (nI r), s0, s1, s2, s3, (fun k hk => (metV_lt hk).1), thr_tb h4 h.2.1 s4⟩, a4⟩
theorem c_tbh {M : mm} {V : Nat → Int32} {i r t : Nat} (h : okV V n np) (hi : i < np) (ht : t < 5) (hV : VC M.1 102 = one n i V r) (hs : stoH M V n i r t) : ∃ M', fX0_takeBack 102 (111 + t) (lay M) = some ((), lay M') ∧ VC M'.1 102 = V ∧ fr (inB 102) M M' := by
  obtain ⟨lk, s0, s1, s2, s3, s4, s5⟩ := hs
  have h4 : i < 4 := Nat.lt_of_lt_of_le hi h.2.2.2.1
  have hn := h.2.1
  obtain ⟨M', a1, a2, a3⟩ := c_takeBack (M := M) (b := 102) (s := 111 + t) brd_102 (so_C ht) (by omega) (pl := i) (lk := lk) s0 h4 s3 (fun k hk => by have := s4 k hk; omega)
  refine ⟨M', a1, ?_, a3⟩
  rw [a2, hV, s1, s2]
  exact s5
theorem nJ_32 {a : Nat} (h : a < 2147483648) : (nJ a).toInt32 = nI a := by
  apply t_inj
  rw [Int64.toInt_toInt32, nJ_i (by omega), nI_toInt (by omega)]
  exact Int.bmod_eq_of_le (by omega) (by omega)
def kx (k : Nat) : Nat := (k * 1103515245 + 12345) % 2147483648
theorem kx_lt (k : Nat) : kx k < 2147483648 := Nat.mod_lt _ (by omega)
theorem nJ_add {a b : Nat} (h : a + b < 4611686018427387904) : nJ a + nJ b = nJ (a + b) := by
  refine nJ_inj h ?_
  rw [Int64.toInt_add, nJ_i (by omega), nJ_i (by omega), ← Int.natCast_add]
  exact Int.bmod_eq_of_le (by omega) (by omega)
theorem nJ_mul {a b : Nat} (ha : a < 4611686018427387904) (hb : b < 4611686018427387904) (h : a * b < 4611686018427387904) : nJ a * nJ b = nJ (a * b) := by
  refine nJ_inj h ?_
  rw [Int64.toInt_mul, nJ_i ha, nJ_i hb, ← Int.natCast_mul]
  exact Int.bmod_eq_of_le (by omega) (by omega)
theorem j64 (k : Nat) (h : k < 4611686018427387904) : (no_index (OfNat.ofNat k : Int64)) = nJ k := by
  apply Int64.toInt_inj.mp
  rw [nJ_i h]
  show (Int64.ofNat k).toInt = k
  exact Int64.toInt_ofNat_of_lt (by omega)
theorem rJ_g {k a b c : Nat} (h : k * a + b < 4611686018427387904) (hk : k < 4611686018427387904) (ha : a < 4611686018427387904) (hc : c < 4611686018427387904) (h0 : 0 < c) : gx_rJ (nJ k * nJ a + nJ b) (nJ c) = some (nJ ((k * a + b) % c)) := by
  unfold gx_rJ
  rw [if_neg (fun z => by have := (nJ_0 hc).mp z; omega), nJ_mul hk ha (by omega), nJ_add h, nJ_mod h hc]
theorem e_mul : (1103515245 : Int64) = nJ 1103515245 := j64 _ (by decide)
theorem e_inc : (12345 : Int64) = nJ 12345 := j64 _ (by decide)
theorem e_mod : (2147483648 : Int64) = nJ 2147483648 := j64 _ (by decide)
theorem e_16 : (65536 : Int64) = nJ 65536 := j64 _ (by decide)
theorem e_20 : (1048576 : Int64) = nJ 1048576 := j64 _ (by decide)
theorem rJ_kx {k : Nat} (hk : k < 2147483648) : gx_rJ ((nJ k * (1103515245 : Int64)) + (12345 : Int64)) (2147483648 : Int64) = some (nJ (kx k)) := by
  have hm : k * 1103515245 ≤ 2147483647 * 1103515245 := Nat.mul_le_mul_right _ (by omega)
  have e := rJ_g (k := k) (a := 1103515245) (b := 12345) (c := 2147483648) (by omega) (by omega) (by omega) (by omega) (by omega)
  rw [← e_mul, ← e_inc, ← e_mod] at e
  exact e
theorem dJ_n {a b : Nat} (ha : a < 4611686018427387904) (hb : b < 4611686018427387904) (h0 : 0 < b) : gx_dJ (nJ a) (nJ b) = some (nJ (a / b)) := by
  unfold gx_dJ
  rw [if_neg (fun z => by have := (nJ_0 hb).mp z; omega), nJ_div ha hb]
theorem rJ_n {a b : Nat} (ha : a < 4611686018427387904) (hb : b < 4611686018427387904) (h0 : 0 < b) : gx_rJ (nJ a) (nJ b) = some (nJ (a % b)) := by
  unfold gx_rJ
  rw [if_neg (fun z => by have := (nJ_0 hb).mp z; omega), nJ_mod ha hb]
def ev1 (κ : Nat → Nat) (d n np k : Nat) (V : Nat → Int32) : Nat → Int32 := if κ k / 65536 % 4 < np then one n (κ k / 65536 % 4) V (κ k / 1048576 % d + 1) else V
def ev (κ : Nat → Nat) (d n np : Nat) : Nat → Nat → (Nat → Int32) → Nat → Int32
  | 0, _, V => V
  | m + 1, k, V => ev κ d n np m (κ k) (ev1 κ d n np k V)
theorem okV_ev1 {κ : Nat → Nat} {k : Nat} {V : Nat → Int32} (hd1 : 2 ≤ d) (hd : d ≤ 6) (h : okV V n np) : okV (ev1 κ d n np k V) n np := by
  unfold ev1
  split
  · rename_i c
    exact okV_one h c (by omega) (by have := Nat.mod_lt (κ k / 1048576) (show 0 < d by omega); omega)
  · exact h
theorem eqv_ev1 {κ : Nat → Nat} {k : Nat} {V W : Nat → Int32} (h : eqv n np V W) : eqv n np (ev1 κ d n np k V) (ev1 κ d n np k W) := by
  unfold ev1
  split
  · rename_i c
    exact eqv_one h c
  · exact h
theorem okV_ev {κ : Nat → Nat} (hd1 : 2 ≤ d) (hd : d ≤ 6) : ∀ (m k : Nat) (V : Nat → Int32), okV V n np → okV (ev κ d n np m k V) n np
  | 0, _, _, h => h
  | m + 1, k, V, h => by
    have e : ev κ d n np (m + 1) k V = ev κ d n np m (κ k) (ev1 κ d n np k V) := rfl
    rw [e]
    exact okV_ev hd1 hd m (κ k) (ev1 κ d n np k V) (okV_ev1 hd1 hd h)
theorem eqv_ev {κ : Nat → Nat} : ∀ (m k : Nat) (V W : Nat → Int32), eqv n np V W → eqv n np (ev κ d n np m k V) (ev κ d n np m k W)
  | 0, _, _, _, h => h
  | m + 1, k, V, W, h => by
    have e : ∀ V, ev κ d n np (m + 1) k V = ev κ d n np m (κ k) (ev1 κ d n np k V) := fun _ => rfl
    rw [e, e]
    exact eqv_ev m (κ k) (ev1 κ d n np k V) (ev1 κ d n np k W) (eqv_ev1 h)
theorem in_P {i np : Nat} (hi : i < 4) (hnp : np ≤ 4) : (0 ≤ nI i ∧ nI i ≤ nI np - 1) ↔ i < np := by
  have e : (nI np - 1).toInt = (np : Int) - 1 := by rw [t_sub (by rw [nI_toInt (by omega), i1]; omega) (by rw [nI_toInt (by omega), i1]; omega), nI_toInt (by omega), i1]
  rw [t_le, t_le, e, nI_toInt (by omega), i0]
  omega
theorem lv_n {a b : Nat} {h : gx_H} (ha : a < 4611686018427387904) (h0 : 0 < b) (hb : b ≤ 6) : fX10_leftOver (nJ a) (nI b) h = some (nI (a % b), h) := by
  have := Nat.mod_lt a h0
  unfold fX10_leftOver fX10_leftOver_14
  rw [if_pos (show (1 : Int32) ≤ nI b from nI_le (a := 1) (by omega) (by omega)), nI_J (by omega), rJ_n ha (by omega) h0, Option.bind_some, nJ_32 (by omega)]
theorem c_ev_15 {κ : Nat → Nat} {N : Nat} (hκ : ∀ k, k < 2147483648 → gx_rJ ((nJ k * (1103515245 : Int64)) + (12345 : Int64)) (2147483648 : Int64) = some (nJ (κ k)) ∧ κ k < 2147483648) (hd1 : 2 ≤ d) (hd : d ≤ 6) (hN : N ≤ 60) : ∀ (m t k F : Nat) (M : mm), t + m = N → m < F → k < 2147483648 → okV (VC M.1 102) n np → M.1 102 1 = nI d → (∀ j, j < 5 → M.2.2 110 j = some (111 + j)) → ∃ M', fX5_homesBySeed_15 F 101 (nI N) (nJ k) (nI t) (lay M) = some (cntH (ev κ d n np m k (VC M.1 102)) np 0 0, lay M') ∧ frO M M'
  | m, t, k, 0, M, _, hF, _, _, _, _ => by omega
  | 0, t, k, F + 1, M, ht, _, hk, hok, hD, hP => by
    show ∃ M', bX5_homesBySeed_15 (fX5_homesBySeed_15 F) 101 (nI N) (nJ k) (nI t) (lay M) = _ ∧ _
    unfold bX5_homesBySeed_15
    rw [if_pos (nI_le (by omega) (by omega)), r_101_0, Option.bind_some, c_homes brd_102 (c_np brd_102 hok) hok.2.2.2.1, gx_bd_some]
    exact ⟨M, rfl, frO.rf⟩
  | m + 1, t, k, F + 1, M, ht, hF, hk, hok, hD, hP => by
    have h4 := hok.2.2.2.1
    have hx := (hκ k hk).2
    have hdg := Nat.mod_lt (κ k / 1048576) (show 0 < d by omega)
    have hq := Nat.mod_lt (κ k / 65536) (show 0 < 4 by omega)
    have hv1 : κ k / 65536 ≤ κ k := Nat.div_le_self _ _
    have hv2 : κ k / 1048576 ≤ κ k := Nat.div_le_self _ _
    show ∃ M', bX5_homesBySeed_15 (fX5_homesBySeed_15 F) 101 (nI N) (nJ k) (nI t) (lay M) = _ ∧ _
    unfold bX5_homesBySeed_15 fX5_homesBySeed_97
    rw [if_neg (nI_ge (by omega) (by omega)), (hκ k hk).1, Option.bind_some, e_16, dJ_n (by omega) (by omega) (by omega), Option.bind_some, show (4 : Int32) = nI 4 from rfl, lv_n (by omega) (by omega) (by omega), gx_bd_some, r_101_0, Option.bind_some, bi3 brd_102, Option.bind_some, c_np brd_102 hok, f10_within, gx_bd_some, nI_1]
    have e1 : ev κ d n np (m + 1) k (VC M.1 102) = ev κ d n np m (κ k) (ev1 κ d n np k (VC M.1 102)) := rfl
    rw [e1]
    by_cases c : κ k / 65536 % 4 < np
    · rw [b2_t ((in_P hq h4).mpr c), if_neg (by decide), e_20, dJ_n (by omega) (by omega) (by omega), Option.bind_some, r_101_0, Option.bind_some, bi1 brd_102, Option.bind_some, hD, lv_n (by omega) (by omega) hd, gx_bd_some, r_101_1, Option.bind_some, show gx_aR 3 (lay M) 110 0 = some 111 from ar110 (t := 0) (by omega) hP, Option.bind_some, nI_1]
      obtain ⟨M1, a1, a2, a3, a4⟩ := c_mvh (M := M) (i := κ k / 65536 % 4) (r := κ k / 1048576 % d + 1) (t := 0) hok c (by omega) (by omega) (by omega)
      have a1' : fX5_moveUnlessHome 101 (nI (κ k / 65536 % 4)) (nI (κ k / 1048576 % d + 1)) 111 (lay M) = some ((), lay M1) := a1
      rw [a1', gx_bd_some]
      have ev_1 : VC M1.1 102 = ev1 κ d n np k (VC M.1 102) := by rw [a2]; unfold ev1; rw [if_pos c]
      obtain ⟨M2, b1, b2⟩ := c_ev_15 hκ hd1 hd hN m (t + 1) (κ k) F M1 (by omega) (by omega) hx (by rw [ev_1]; exact okV_ev1 hd1 hd hok) (by rw [← VC_0 M1.1 102 (by omega), a2, one_o (by omega), VC_0 _ _ (by omega)]; exact hD) (by rw [a4.1]; exact hP)
      rw [ev_1] at b1
      exact ⟨M2, b1, frO.tr ⟨a4.1, fun x hx => a4.2 x (fun z => by unfold inBS at z; omega)⟩ b2⟩
    · rw [b2_f (fun z => c ((in_P hq h4).mp z)), if_pos (show (0 : Int32) = 0 from rfl)]
      have ev_1 : ev1 κ d n np k (VC M.1 102) = VC M.1 102 := by unfold ev1; rw [if_neg c]
      rw [ev_1]
      exact c_ev_15 hκ hd1 hd hN m (t + 1) (κ k) F M (by omega) (by omega) hx hok hD hP
theorem r_ev_41 {κ : Nat → Nat} {N : Nat} (hκ : ∀ k, k < 2147483648 → gx_rJ ((nJ k * (1103515245 : Int64)) + (12345 : Int64)) (2147483648 : Int64) = some (nJ (κ k)) ∧ κ k < 2147483648) (hd1 : 2 ≤ d) (hd : d ≤ 6) (hN : N ≤ 60) : ∀ (m t k F : Nat) (M : mm), t + m = N → m < F → k < 2147483648 → okV (VR M.1 812) n np → M.1 123 1 = nI d → M.1 123 3 = nI np → ∃ M', fX11_evenings_41 F 122 (nI N) (nJ k) (nI t) (lay M) = some (cntH (ev κ d n np m k (VR M.1 812)) np 0 0, lay M') ∧ frW 812 852 M M'
  | m, t, k, 0, M, _, hF, _, _, _, _ => by omega
  | 0, t, k, F + 1, M, ht, _, hk, hok, hD, hP => by
    show ∃ M', bX11_evenings_41 (fX11_evenings_41 F) 122 (nI N) (nJ k) (nI t) (lay M) = _ ∧ _
    unfold bX11_evenings_41
    rw [if_pos (nI_le (by omega) (by omega)), show fX11_homes 122 812 (lay M) = _ from r_homes (M := M) (r := 812) (by omega) hok.2.2.1 hok.2.2.2.1, gx_bd_some]
    exact ⟨M, rfl, frW.rf⟩
  | m + 1, t, k, F + 1, M, ht, hF, hk, hok, hD, hP => by
    have h4 := hok.2.2.2.1
    have hx := (hκ k hk).2
    have hdg := Nat.mod_lt (κ k / 1048576) (show 0 < d by omega)
    have hq := Nat.mod_lt (κ k / 65536) (show 0 < 4 by omega)
    have hv1 : κ k / 65536 ≤ κ k := Nat.div_le_self _ _
    have hv2 : κ k / 1048576 ≤ κ k := Nat.div_le_self _ _
    show ∃ M', bX11_evenings_41 (fX11_evenings_41 F) 122 (nI N) (nJ k) (nI t) (lay M) = _ ∧ _
    unfold bX11_evenings_41 fX11_evenings_104
    rw [if_neg (nI_ge (by omega) (by omega)), (hκ k hk).1, Option.bind_some, e_16, dJ_n (by omega) (by omega) (by omega), Option.bind_some, show (4 : Int64) = nJ 4 from j64 _ (by decide), rJ_n (by omega) (by omega) (by omega), Option.bind_some, nJ_32 (by omega), f11_isPlayer, gx_bd_some, hP, nI_1]
    have e1 : ev κ d n np (m + 1) k (VR M.1 812) = ev κ d n np m (κ k) (ev1 κ d n np k (VR M.1 812)) := rfl
    rw [e1]
    by_cases c : κ k / 65536 % 4 < np
    · rw [b2_t ((in_P hq h4).mpr c), if_neg (by decide), e_20, dJ_n (by omega) (by omega) (by omega), Option.bind_some, r_122_0, Option.bind_some, show gx_aI 0 (lay M) 123 1 = some (M.1 123 1) from ra (k := 1) (by omega), Option.bind_some, hD, nI_J (by omega), rJ_n (by omega) (by omega) (by omega), Option.bind_some, nJ_32 (by omega), nI_1]
      obtain ⟨M1, a1, a2, a3⟩ := r_rollsTried (M := M) (i := κ k / 65536 % 4) (t := nI (κ k / 1048576 % d + 1)) hok c
      rw [a1, gx_bd_some]
      have ev_1 : VR M1.1 812 = ev1 κ d n np k (VR M.1 812) := by rw [a2]; unfold ev1 one; rw [if_pos c]
      obtain ⟨M2, b1, b2⟩ := r_ev_41 hκ hd1 hd hN m (t + 1) (κ k) F M1 (by omega) (by omega) hx (by rw [ev_1]; exact okV_ev1 hd1 hd hok) (by rw [a3.lo (by omega)]; exact hD) (by rw [a3.lo (by omega)]; exact hP)
      rw [ev_1] at b1
      exact ⟨M2, b1, a3.tr b2⟩
    · rw [b2_f (fun z => c ((in_P hq h4).mp z)), if_pos (show (0 : Int32) = 0 from rfl)]
      have ev_1 : ev1 κ d n np k (VR M.1 812) = VR M.1 812 := by unfold ev1; rw [if_neg c]
      rw [ev_1]
      exact r_ev_41 hκ hd1 hd hN m (t + 1) (κ k) F M (by omega) (by omega) hx hok hD hP
end EV
theorem cntH_e {n np : Nat} {V W : Nat → Int32} (h : eqv n np V W) : cntH V np 0 0 = cntH W np 0 0 := cntH_eq h.1 np 0 0 (fun j _ hj => (h.2.2.2.2.2 j (by omega)).2.1)
theorem op_evenings (a b : Int32) : Op (fX10_evenings 0 a b) (fX11_evenings 122 a b) := by
  intro M h
  obtain ⟨n, np, hs, q, g⟩ := h.gm
  have hn6 := g.n6
  have hp4 := g.np6
  unfold fX10_evenings fX11_evenings fX10_evenings_21 fX11_evenings_24
  simp only [o_0, o_122, r_0_0, r_0_4, r_1_0, f10_within, f11_in, Option.bind_some, gx_bd_some, f10_bad, f11_bad', show (0 : Int64) = (0 : Int32).toInt64 from rfl, show (999999 : Int64) = (999999 : Int32).toInt64 from rfl, show (60 : Int64) = (60 : Int32).toInt64 from rfl, b_le]
  by_cases c1 : 0 ≤ a ∧ a ≤ 999999
  case neg =>
    rw [b2_f c1, if_pos rfl]
    refine ⟨_, badC M, badR (badC M), rfl, ?_, h.bad⟩
    rw [if_pos rfl]
  rw [b2_t c1, if_neg (by decide)]
  by_cases c2 : 0 ≤ b ∧ b ≤ 60
  case neg =>
    rw [b2_f c2, if_pos rfl]
    refine ⟨_, badC M, badR (badC M), rfl, ?_, h.bad⟩
    rw [if_neg (by decide), if_pos rfl]
  rw [b2_t c2, if_neg (by decide)]
  obtain ⟨s, _, hs6, rfl⟩ := in_n (a := 0) (b := 999999) (by omega) c1 (by omega)
  obtain ⟨N, _, hN, rfl⟩ := in_n (a := 0) (b := 60) (by omega) c2 (by omega)
  have hD := g.D
  obtain ⟨d, hd, ed⟩ := bn_nI (x := M.1 2 1) (n := 6) ⟨by have := hD.1; omega, hD.2⟩
  have hd1 : 2 ≤ d := by have := hD.1; rw [ed, nI_toInt (by omega)] at this; omega
  obtain ⟨κ, hκ⟩ : ∃ κ : Nat → Nat, ∀ k, k < 2147483648 → gx_rJ ((nJ k * (1103515245 : Int64)) + (12345 : Int64)) (2147483648 : Int64) = some (nJ (κ k)) ∧ κ k < 2147483648 := ⟨kx, fun k hk => ⟨rJ_kx hk, kx_lt k⟩⟩
  obtain ⟨M1, a1, a2, a3, a4, a5, a6, a7, a8⟩ := c_out g.1
  obtain ⟨Ma, b1, b2⟩ := c_ev_15 (n := n) (np := np) hκ hd1 hd hN N 0 s gx_N M1 (by omega) (by unfold gx_N; omega) (by omega) a3 (by rw [a6]; exact ed) (by rw [a2.1]; exact h.2.2.2.2.2.2.1)
  generalize hV : VC M1.1 102 = V at a3 a4 b1
  have kO : frO M Ma := ⟨b2.1.trans a2.1, fun x hx => by rw [b2.2 x (by omega), a2.2 x (fun z => by unfold inB at z; omega)]⟩
  have b1' : fX5_homesBySeed_15 gx_N 101 (nI N) (nJ s) 0 (lay M1) = _ := b1
  have hcl : fX5_homesBySeed 101 2 (nI s) (nI N) (lay M) = some (cntH (ev κ d n np N s V) np 0 0, lay Ma) := by
    unfold fX5_homesBySeed
    rw [o_101, Option.bind_some, r_101_0, Option.bind_some, a1, gx_bd_some, nI_J (by omega), b1']
  have e123 : Ma.1 123 = M.1 123 := kO.2 123 (by omega)
  have h1 := h.kp (frO_kp kO)
  obtain ⟨Mt, t1, t2, t3⟩ := r_tries Ma
  have he : eqv n np V (VR Mt.1 812) := by
    refine eqv_low (eqv_tr a4 g.2.1) hn6 hp4 (fun j hj => ?_)
    rw [t3 j hj]
    unfold VR
    rw [e123]
  obtain ⟨Mb, x1, x2⟩ := r_ev_41 (M := Mt) (n := n) (np := np) hκ hd1 hd hN N 0 s gx_N (by omega) (by unfold gx_N; omega) (by omega) (eqv_ok he a3) (by rw [t2.lo (by omega), e123, g.w1]; exact ed) (by rw [t2.lo (by omega), e123, g.w3]; exact g.pp)
  have x1' : fX11_evenings_41 gx_N 122 (nI N) (nJ s) 0 (lay Mt) = _ := x1
  rw [hcl, gx_bd_some]
  refine ⟨_, Ma, Mb, rfl, ?_, h1.kp ((t2.tr x2).kp (by omega))⟩
  rw [if_neg (by decide), if_neg (by decide), t1, gx_bd_some, nI_J (by omega), x1', cntH_e (eqv_ev N s _ _ he)]
