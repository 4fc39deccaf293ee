/-! ahead: two players, turn by turn -/
section AH
variable {d n np a b T : Nat} {V : Nat → Int32}
def Pa (a b m : Nat) : Nat := if m % 2 = 1 then a else b
def Fa (a b : Nat) (W : Nat → Int32) : Nat := if W (32 + a) ≤ W (32 + b) then 0 else 1
def kA (t : Nat) (M M' : mm) : Prop := M'.2 = M.2 ∧ VC M'.1 102 = VC M.1 102 ∧ ∀ c, c < 102 ∨ c = 110 ∨ (111 ≤ c ∧ c < 111 + t) ∨ 116 ≤ c → M'.1 c = M.1 c
theorem kA.rf {t : Nat} {M : mm} : kA t M M := ⟨rfl, rfl, fun _ _ => rfl⟩
theorem kA.tr {t : Nat} {M M' M'' : mm} (h : kA t M M') (h2 : kA t M' M'') : kA t M M'' := ⟨h2.1.trans h.1, h2.2.1.trans h.2.1, fun c hc => (h2.2.2 c hc).trans (h.2.2 c hc)⟩
theorem kA.D {t : Nat} {M M' : mm} (k : kA t M M') (hD : M.1 102 1 = nI d) : M'.1 102 1 = nI d := by
  rw [← VC_0 M'.1 102 (by omega), k.2.1, VC_0 _ _ (by omega)]; exact hD
theorem c_ahead_89 {i m t : Nat} (hd1 : 2 ≤ d) (hd : d ≤ 6) (hi : i < np) (ht : t < 5) (kr : Nat → Int32 → Int32 → Int32 → Int32 → gx_H → Option (Int32 × gx_H))
    (hkr : ∀ M : mm, okV (VC M.1 102) n np → M.1 102 1 = nI d → (∀ j, j < 5 → M.2.2 110 j = some (111 + j)) → ∃ M', kr 101 (nI a) (nI b) (nI (t + 1)) (nI T) (lay M) = some (nI (SS d n (Pa a b) (Fa a b) m (VC M.1 102)), lay M') ∧ kA (t + 1) M M') :
    ∀ (c r F s : Nat) (M : mm), r + c = d + 1 → 1 ≤ r → c < F → okV (VC M.1 102) n np → M.1 102 1 = nI d → (∀ j, j < 5 → M.2.2 110 j = some (111 + j)) → ∃ M', fX5_rowsAheadOn_89 kr F 101 (nI a) (nI b) (nI t) (nI T) (nI i) (nI s) (nI r) (lay M) = some (nI (s + sm (fun j => SS d n (Pa a b) (Fa a b) m (thr (VC M.1 102) n i (nI (r + j)))) c), lay M') ∧ kA t M M'
  | c, r, 0, s, M, _, _, hF, _, _, _ => by omega
  | 0, r, F + 1, s, M, hr, _, _, hok, hD, hP => by
    show ∃ M', bX5_rowsAheadOn_89 kr (fX5_rowsAheadOn_89 kr F) 101 (nI a) (nI b) (nI t) (nI T) (nI i) (nI s) (nI r) (lay M) = _ ∧ _
    unfold bX5_rowsAheadOn_89
    rw [r_101_0, Option.bind_some, bi1 brd_102, Option.bind_some, hD, if_pos (nI_lt (by omega) (by omega))]
    exact ⟨M, rfl, kA.rf⟩
  | c + 1, r, F + 1, s, M, hr, h1, hF, hok, hD, hP => by
    have hr6 : r ≤ 6 := by omega
    show ∃ M', bX5_rowsAheadOn_89 kr (fX5_rowsAheadOn_89 kr F) 101 (nI a) (nI b) (nI t) (nI T) (nI i) (nI s) (nI r) (lay M) = _ ∧ _
    unfold bX5_rowsAheadOn_89
    rw [r_101_0, Option.bind_some, bi1 brd_102, Option.bind_some, hD, if_neg (show ¬ nI d < nI r from by rw [t_lt, nI_toInt (by omega), nI_toInt (by omega)]; omega), Option.bind_some, r_101_1, Option.bind_some, ar110 ht hP, Option.bind_some]
    obtain ⟨M1, b1, b2, b3, b4⟩ := c_mv (M := M) (n := n) (np := np) (i := i) (r := r) (t := t) hok hi h1 hr6 ht
    rw [b1, gx_bd_some, nI_1]
    have hok1 : okV (VC M1.1 102) n np := by rw [b2]; exact okV_thr hok hi h1 hr6
    have hD1 : M1.1 102 1 = nI d := by
      rw [← VC_0 M1.1 102 (by omega), b2, thr_o (by omega) (by omega) (fun k _ => by omega), VC_0 _ _ (by omega)]; exact hD
    obtain ⟨M2, e1, e2⟩ := hkr M1 hok1 hD1 (by rw [b4.1]; exact hP)
    rw [b2] at e1
    rw [e1, gx_bd_some, r_101_0, Option.bind_some, r_101_1, Option.bind_some, ar110 ht (by rw [e2.1, b4.1]; exact hP), Option.bind_some]
    have hs2 : sto M2 (VC M.1 102) n i r t := by
      unfold sto
      rw [e2.2.2 (111 + t) (by omega)]
      exact b3
    obtain ⟨M3, c1, c2, c3⟩ := c_tb (M := M2) hok hi ht (by rw [e2.2.1]; exact b2) hs2
    rw [c1, gx_bd_some, nI_add, nI_1]
    have f3 : ∀ x, ¬ (102 ≤ x ∧ x < 110) → M3.1 x = M2.1 x := fun x hx => c3.2 x (fun z => by unfold inB at z; omega)
    have f1 : ∀ x, ¬ (102 ≤ x ∧ x < 110) → x ≠ 111 + t → M1.1 x = M.1 x := fun x h1 h2 => b4.2 x (fun z => by unfold inBS at z; omega)
    have k3 : kA t M M3 := ⟨c3.1.trans (e2.1.trans b4.1), c2, fun x hx => by rw [f3 x (by omega), e2.2.2 x (by omega), f1 x (by omega) (by omega)]⟩
    obtain ⟨M4, d1', d2'⟩ := c_ahead_89 hd1 hd hi ht kr hkr c (r + 1) F (s + SS d n (Pa a b) (Fa a b) m (thr (VC M.1 102) n i (nI r))) M3 (by omega) (by omega) (by omega) (by rw [c2]; exact hok) (k3.D hD) (by rw [k3.1]; exact hP)
    rw [c2] at d1'
    refine ⟨M4, ?_, k3.tr d2'⟩
    have es : sm (fun j => SS d n (Pa a b) (Fa a b) m (thr (VC M.1 102) n i (nI (r + j)))) (c + 1) = SS d n (Pa a b) (Fa a b) m (thr (VC M.1 102) n i (nI r)) + sm (fun j => SS d n (Pa a b) (Fa a b) m (thr (VC M.1 102) n i (nI (r + 1 + j)))) c := by
      have e2 := sm_eq (g := fun y => SS d n (Pa a b) (Fa a b) m (thr (VC M.1 102) n i (nI (r + (y + 1))))) (g' := fun y => SS d n (Pa a b) (Fa a b) m (thr (VC M.1 102) n i (nI (r + 1 + y)))) c (fun x _ => by rw [show r + (x + 1) = r + 1 + x by omega])
      rw [sm_first, ← e2]
      rfl
    rw [d1', es, Nat.add_assoc]
theorem c_ahead {N : Nat} (hd1 : 2 ≤ d) (hd : d ≤ 6) (ha : a < np) (hb : b < np) (hN : N ≤ 2) : ∀ (m t F : Nat) (M : mm), t + m = 2 * N → m < F → okV (VC M.1 102) n np → M.1 102 1 = nI d → (∀ j, j < 5 → M.2.2 110 j = some (111 + j)) → ∃ M', fX5_rowsAheadOn F 101 (nI a) (nI b) (nI t) (nI (2 * N)) (lay M) = some (nI (SS d n (Pa a b) (Fa a b) m (VC M.1 102)), lay M') ∧ kA t M M'
  | m, t, 0, M, _, hF, _, _, _ => by omega
  | 0, t, F + 1, M, ht, _, hok, hD, hP => by
    have h4 := hok.2.2.2.1
    show ∃ M', eX5_rowsAheadOn (fX5_rowsAheadOn F) 101 (nI a) (nI b) (nI t) (nI (2 * N)) (lay M) = _ ∧ _
    unfold eX5_rowsAheadOn fX5_rowsAheadOn_11 fX5_rowsAheadOn_37
    rw [if_pos (nI_le (by omega) (by omega)), r_101_0, Option.bind_some, br9 brd_102, Option.bind_some, ba6 brd_102 (show a < 4 by omega), Option.bind_some, Option.bind_some, br9 brd_102, Option.bind_some, ba6 brd_102 (show b < 4 by omega), Option.bind_some, ← VC_6 M.1 102 (show a < 4 by omega), ← VC_6 M.1 102 (show b < 4 by omega), SS_0]
    refine ⟨M, ?_, kA.rf⟩
    unfold Fa
    by_cases c : VC M.1 102 (32 + a) ≤ VC M.1 102 (32 + b)
    · rw [if_pos c, if_pos c]; rfl
    · rw [if_neg c, if_neg c]; rfl
  | m + 1, t, F + 1, M, ht, hF, hok, hD, hP => by
    have h4 := hok.2.2.2.1
    have hiP : Pa a b m < np := by unfold Pa; split <;> omega
    show ∃ M', eX5_rowsAheadOn (fX5_rowsAheadOn F) 101 (nI a) (nI b) (nI t) (nI (2 * N)) (lay M) = _ ∧ _
    unfold eX5_rowsAheadOn gx_rI
    rw [if_neg (nI_ge (by omega) (by omega)), if_pos (show nI t < (5 : Int32) from nI_lt (b := 5) (by omega) (by omega)), if_neg (show ¬ (2 : Int32) = 0 by decide), Option.bind_some, show nI t - nI t / 2 * 2 = nI (t % 2) from nI_mod (b := 2) (by omega) (by omega) (by omega)]
    have eP : (if nI (t % 2) = 0 then fX5_rowsAheadOn_49 (fX5_rowsAheadOn F) 101 (nI a) (nI b) (nI t) (nI (2 * N)) (nI a) (lay M) else fX5_rowsAheadOn_49 (fX5_rowsAheadOn F) 101 (nI a) (nI b) (nI t) (nI (2 * N)) (nI b) (lay M)) = fX5_rowsAheadOn_49 (fX5_rowsAheadOn F) 101 (nI a) (nI b) (nI t) (nI (2 * N)) (nI (Pa a b m)) (lay M) := by
      unfold Pa
      by_cases z : m % 2 = 1
      · rw [if_pos z, if_pos (show nI (t % 2) = 0 from by rw [show t % 2 = 0 by omega]; rfl)]
      · rw [if_neg z, if_neg (show ¬ nI (t % 2) = 0 from nz (by omega) (by omega))]
    rw [eP]
    generalize hi : Pa a b m = i at *
    unfold fX5_rowsAheadOn_49
    rw [r_101_0, Option.bind_some, c_home (show i < 4 by omega), gx_bd_some]
    by_cases c : VC M.1 102 (32 + i) = VC M.1 102 0
    · obtain ⟨M1, e1, e2⟩ := c_ahead hd1 hd ha hb hN m (t + 1) F M (by omega) (by omega) hok hD hP
      rw [b2_t c, if_neg (by decide), r_101_0, Option.bind_some, bi1 brd_102, Option.bind_some, hD, nI_1, e1, gx_bd_some, pk_mul]
      refine ⟨M1, ?_, e2.1, e2.2.1, fun x hx => e2.2.2 x (by omega)⟩
      rw [SS_s, sm_eq (g' := fun _ => SS d n (Pa a b) (Fa a b) m (VC M.1 102)) d (fun r _ => by
        try dsimp only
        unfold one
        rw [hi, if_pos c]), sm_c]
    · obtain ⟨M1, e1, e2⟩ := c_ahead_89 (a := a) (b := b) (n := n) (T := 2 * N) (m := m) (t := t) hd1 hd hiP (by omega) (fX5_rowsAheadOn F) (fun M' q1 q2 q3 => c_ahead hd1 hd ha hb hN m (t + 1) F M' (by omega) (by omega) q1 q2 q3) d 1 gx_N 0 M (by omega) (by omega) (by unfold gx_N; omega) hok hD hP
      rw [b2_f c, if_pos (show (0 : Int32) = 0 from rfl)]
      have e1' : fX5_rowsAheadOn_89 (fX5_rowsAheadOn F) gx_N 101 (nI a) (nI b) (nI t) (nI (2 * N)) (nI i) 0 1 (lay M) = _ := e1
      rw [e1']
      refine ⟨M1, ?_, e2⟩
      rw [Nat.zero_add, SS_s, sm_eq (g := fun r => SS d n (Pa a b) (Fa a b) m (one n (Pa a b m) (VC M.1 102) (r + 1))) (g' := fun j => SS d n (Pa a b) (Fa a b) m (thr (VC M.1 102) n i (nI (1 + j)))) d (fun r _ => by
        try dsimp only
        unfold one
        rw [hi, if_neg c, Nat.add_comm])]
theorem r_ahead_73 {N x : Nat} {v4 v5 : Int32} (hd1 : 2 ≤ d) (hd : d ≤ 6) (ha : a < np) (hb : b < np) (hN : N ≤ 2) (hx : x < 2147483648) (k55 : Nat → Int32 → Int32 → Int32 → Int32 → Int32 → Int32 → gx_H → Option (Int32 × gx_H)) : ∀ (m e F : Nat) (M : mm), e + m = 2 * N → m < F → M.1 123 1 = nI d → okV (VR M.1 812) n np → ∃ M', frW 812 852 M M' ∧ fX11_ahead_73 k55 F 122 (nI a) (nI b) (nI N) v4 v5 (nI x) (nI (d ^ m)) (nI e) (lay M) = k55 122 (nI a) (nI b) (nI N) (v4 + nI (Fa a b (plP d n (Pa a b) m x (VR M.1 812)))) v5 (nI (x + 1)) (lay M')
  | m, e, 0, M, _, hF, _, _ => by omega
  | 0, e, F + 1, M, he, _, hD, hok => by
    have h4 := hok.2.2.2.1
    show ∃ M', _ ∧ bX11_ahead_73 k55 (fX11_ahead_73 k55 F) 122 (nI a) (nI b) (nI N) v4 v5 (nI x) (nI (d ^ 0)) (nI e) (lay M) = _
    unfold bX11_ahead_73 fX11_ahead_158
    rw [show (2 : Int32) * nI N = nI (2 * N) from pk_mul 2 N, if_pos (nI_le (by omega) (by omega)), r_122_0, Option.bind_some, show (844 : Int32) = nI 844 from rfl, nI_add, nI_add, ra (show 844 + a < 852 by omega), Option.bind_some, Option.bind_some, ra (show 844 + b < 852 by omega), Option.bind_some, nI_1]
    refine ⟨M, frW.rf, ?_⟩
    rw [show M.1 123 (844 + a) = VR M.1 812 (32 + a) from by unfold VR; rw [show 812 + (32 + a) = 844 + a by omega], show M.1 123 (844 + b) = VR M.1 812 (32 + b) from by unfold VR; rw [show 812 + (32 + b) = 844 + b by omega]]
    show _ = k55 122 (nI a) (nI b) (nI N) (v4 + nI (Fa a b (VR M.1 812))) v5 (nI (x + 1)) (lay M)
    unfold Fa
    by_cases c : VR M.1 812 (32 + a) ≤ VR M.1 812 (32 + b)
    · rw [if_pos c, if_pos c]; rfl
    · rw [if_neg c, if_neg c]; rfl
  | m + 1, e, F + 1, M, he, hF, hD, hok => by
    have h4 := hok.2.2.2.1
    have hiP : Pa a b m < np := by unfold Pa; split <;> omega
    have hp := pow_bd hd (t := m + 1) (by omega)
    have hp2 := pow_bd hd (t := m) (by omega)
    have hp0 : 0 < d ^ m := Nat.pow_pos (by omega)
    have hdig := Nat.mod_lt (x / d ^ m) (show 0 < d by omega)
    have hxd : x / d ^ m ≤ x := Nat.div_le_self _ _
    show ∃ M', _ ∧ bX11_ahead_73 k55 (fX11_ahead_73 k55 F) 122 (nI a) (nI b) (nI N) v4 v5 (nI x) (nI (d ^ (m + 1))) (nI e) (lay M) = _
    unfold bX11_ahead_73
    rw [show (2 : Int32) * nI N = nI (2 * N) from pk_mul 2 N, if_neg (nI_ge (by omega) (by omega)), r_122_0, Option.bind_some, show gx_aI 0 (lay M) 123 1 = some (M.1 123 1) from ra (k := 1) (by omega), Option.bind_some, hD]
    rw [show gx_dI (nI (d ^ (m + 1))) (nI d) = some (nI (d ^ m)) from by
      unfold gx_dI
      rw [if_neg (nz (by omega) (by omega)), pk_div (by omega) (by omega) (by omega), Nat.pow_succ, Nat.mul_div_cancel _ (by omega)], Option.bind_some]
    rw [show gx_rI (nI e) 2 = some (nI (e % 2)) from by
      unfold gx_rI
      rw [if_neg (show ¬ (2 : Int32) = 0 by decide), show nI e - nI e / 2 * 2 = nI (e % 2) from nI_mod (b := 2) (by omega) (by omega) (by omega)], Option.bind_some]
    have eP : (if nI (e % 2) = 0 then fX11_ahead_105 k55 (fX11_ahead_73 k55 F) 122 (nI a) (nI b) (nI N) v4 v5 (nI x) (nI (d ^ m)) (nI e) 122 (nI a) (lay M) else fX11_ahead_105 k55 (fX11_ahead_73 k55 F) 122 (nI a) (nI b) (nI N) v4 v5 (nI x) (nI (d ^ m)) (nI e) 122 (nI b) (lay M)) = fX11_ahead_105 k55 (fX11_ahead_73 k55 F) 122 (nI a) (nI b) (nI N) v4 v5 (nI x) (nI (d ^ m)) (nI e) 122 (nI (Pa a b m)) (lay M) := by
      unfold Pa
      by_cases z : m % 2 = 1
      · rw [if_pos z, if_pos (show nI (e % 2) = 0 from by rw [show e % 2 = 0 by omega]; rfl)]
      · rw [if_neg z, if_neg (show ¬ nI (e % 2) = 0 from nz (by omega) (by omega))]
    rw [eP]
    unfold fX11_ahead_105 gx_dI gx_rI
    obtain ⟨M1, a1, a2, a3⟩ := r_rollsTried (M := M) (i := Pa a b m) (t := nI (x / d ^ m % d + 1)) hok hiP
    rw [if_neg (nz hp0 (by omega)), Option.bind_some, r_122_0, Option.bind_some, show gx_aI 0 (lay M) 123 1 = some (M.1 123 1) from ra (k := 1) (by omega), Option.bind_some, hD, if_neg (nz (by omega) (by omega)), Option.bind_some, pk_div (by omega) (by omega) (by omega), nI_mod (by omega) (by omega) (by omega), nI_1, a1, gx_bd_some, nI_1]
    have a2' : VR M1.1 812 = one n (Pa a b m) (VR M.1 812) (x / d ^ m % d + 1) := a2
    obtain ⟨M2, b1, b2⟩ := r_ahead_73 (v4 := v4) (v5 := v5) hd1 hd ha hb hN hx k55 m (e + 1) F M1 (by omega) (by omega) (by rw [a3.2.2 1 (by omega)]; exact hD) (by rw [a2']; exact okV_one hok hiP (by omega) (by omega))
    refine ⟨M2, a3.tr b1, ?_⟩
    rw [b2, a2']
    rfl
theorem eqv_Fa {W : Nat → Int32} (h : eqv n np V W) (ha : a < np) (hb : b < np) : Fa a b V = Fa a b W := by
  unfold Fa
  rw [(h.2.2.2.2.2 a ha).2.1, (h.2.2.2.2.2 b hb).2.1]
theorem r_ahead_55 {M0 : mm} {N : Nat} (hd1 : 2 ≤ d) (hd : d ≤ 6) (ha : a < np) (hb : b < np) (hN : N ≤ 2) (hD : M0.1 123 1 = nI d) (hok : okV V n np) (he : eqv n np V (VR M0.1 0)) : ∀ (m x F : Nat) (M : mm), x + m = d ^ (2 * N) → m < F → frW 812 852 M0 M → ∃ M', frW 812 852 M0 M' ∧ fX11_ahead_55 F 122 (nI a) (nI b) (nI N) (nI (sm (fun x => Fa a b (plP d n (Pa a b) (2 * N) x V)) x)) (nI (d ^ (2 * N))) (nI x) (lay M) = gx_bd (fX11_told 122 ((nI (SS d n (Pa a b) (Fa a b) (2 * N) V)).toInt64) ((nI (d ^ (2 * N))).toInt64) (lay M')) fun x12 h11 => some (x12, h11)
  | m, x, 0, M, _, hF, _ => by omega
  | 0, x, F + 1, M, hx, _, hf => by
    have hp := pow_bd hd (show 2 * N ≤ 5 by omega)
    have e : x = d ^ (2 * N) := by omega
    rw [e]
    show ∃ M', _ ∧ bX11_ahead_55 (fX11_ahead_55 F) 122 (nI a) (nI b) (nI N) _ (nI (d ^ (2 * N))) (nI (d ^ (2 * N))) (lay M) = _
    unfold bX11_ahead_55
    rw [if_pos (nI_le (by omega) (by omega))]
    exact ⟨M, hf, rfl⟩
  | m + 1, x, F + 1, M, hx, hF, hf => by
    have hp := pow_bd hd (show 2 * N ≤ 5 by omega)
    have h4 := hok.2.2.2.1
    have hPn : ∀ t, Pa a b t < np := fun t => by unfold Pa; split <;> omega
    show ∃ M', _ ∧ bX11_ahead_55 (fX11_ahead_55 F) 122 (nI a) (nI b) (nI N) (nI (sm (fun x => Fa a b (plP d n (Pa a b) (2 * N) x V)) x)) (nI (d ^ (2 * N))) (nI x) (lay M) = _
    unfold bX11_ahead_55
    obtain ⟨M1, t1, t2, t3⟩ := r_tries M
    have q1 : eqv n np V (VR M1.1 812) := eqv_low (hf.V0 hok.2.1 h4 he) hok.2.1 h4 t3
    obtain ⟨M2, b1, b2⟩ := r_ahead_73 (M := M1) (x := x) (n := n) (np := np) (N := N) (v4 := nI (sm (fun x => Fa a b (plP d n (Pa a b) (2 * N) x V)) x)) (v5 := nI (d ^ (2 * N))) hd1 hd ha hb hN (by omega) (fX11_ahead_55 F) (2 * N) 0 gx_N (by omega) (by unfold gx_N; omega) (by rw [t2.2.2 1 (by omega), hf.lo (by omega)]; exact hD) (eqv_ok q1 hok)
    have b2' : fX11_ahead_73 (fX11_ahead_55 F) gx_N 122 (nI a) (nI b) (nI N) (nI (sm (fun x => Fa a b (plP d n (Pa a b) (2 * N) x V)) x)) (nI (d ^ (2 * N))) (nI x) (nI (d ^ (2 * N))) 0 (lay M1) = _ := b2
    rw [if_neg (nI_ge (by omega) (by omega)), t1, gx_bd_some, b2', ← eqv_Fa (eqv_plP hPn (2 * N) x _ _ q1) ha hb, nI_add]
    exact r_ahead_55 hd1 hd ha hb hN hD hok he m (x + 1) F M2 (by omega) (by omega) (hf.tr (t2.tr b1))
end AH
theorem f10_unlike (M : mm) (x y : Int32) : fX10_areUnlikePlayers 0 x y (lay M) = some (b2 ((0 ≤ x ∧ x ≤ M.1 2 3 - 1) ∧ (0 ≤ y ∧ y ≤ M.1 2 3 - 1) ∧ ¬ x = y), lay M) := by
  unfold fX10_areUnlikePlayers fX10_areUnlikePlayers_25 fX10_areUnlikePlayers_26
  rw [o_0, Option.bind_some, f10_isPlayer, gx_bd_some]
  by_cases c1 : 0 ≤ x ∧ x ≤ M.1 2 3 - 1
  · rw [b2_t c1, if_neg (by decide), f10_isPlayer, gx_bd_some]
    by_cases c2 : 0 ≤ y ∧ y ≤ M.1 2 3 - 1
    · rw [b2_t c2, if_neg (by decide)]
      by_cases c3 : x = y
      · rw [if_pos c3, b2_f (fun z => z.2.2 c3)]; rfl
      · rw [if_neg c3, b2_t ⟨c1, c2, c3⟩]; rfl
    · rw [b2_f c2, if_pos rfl, b2_f (fun z => c2 z.2.1)]; rfl
  · rw [b2_f c1, if_pos rfl, b2_f (fun z => c1 z.1)]; rfl
theorem op_ahead (a b c : Int32) : Op (fX10_ahead 0 a b c) (fX11_ahead 122 a b c) := by
  intro M h
  obtain ⟨n, np, hs, q, g⟩ := h.gm
  have hn6 := g.n6
  have hp4 := g.np6
  unfold fX10_ahead fX11_ahead fX10_ahead_18 fX11_ahead_33
  simp only [o_0, o_122, r_0_0, r_0_4, r_1_0, f10_unlike, f11_isPlayer, f10_within, f11_in, Option.bind_some, gx_bd_some, f10_bad, f11_bad', show (0 : Int64) = (0 : Int32).toInt64 from rfl, show (2 : Int64) = (2 : Int32).toInt64 from rfl, b_le]
  have eB : (badC M).1 123 = M.1 123 := by unfold badC; rw [sI_o (by omega)]
  by_cases c1 : 0 ≤ a ∧ a ≤ M.1 2 3 - 1
  case neg =>
    rw [b2_f (fun z => c1 z.1), if_pos rfl]
    refine ⟨_, badC M, badR (badC M), rfl, ?_, h.bad⟩
    rw [eB, b2_f (fun z => c1 ((g.pl _).mp z)), if_pos rfl]
  have c1' := (g.pl _).mpr c1
  by_cases c2 : 0 ≤ b ∧ b ≤ M.1 2 3 - 1
  case neg =>
    rw [b2_f (fun z => c2 z.2.1), if_pos rfl]
    refine ⟨_, badC M, badR (badC M), rfl, ?_, h.bad⟩
    rw [eB, b2_t c1', if_neg (by decide), b2_f (fun z => c2 ((g.pl _).mp z)), if_pos rfl]
  have c2' := (g.pl _).mpr c2
  by_cases c3 : a = b
  case pos =>
    rw [b2_f (fun z => z.2.2 c3), if_pos rfl]
    refine ⟨_, badC M, badR (badC M), rfl, ?_, h.bad⟩
    rw [eB, b2_t c1', if_neg (by decide), b2_t c2', if_neg (by decide), if_pos c3]
  rw [b2_t ⟨c1, c2, c3⟩, if_neg (by decide)]
  by_cases c4 : 0 ≤ c ∧ c ≤ 2
  case neg =>
    rw [b2_f c4, if_pos rfl]
    refine ⟨_, badC M, badR (badC M), rfl, ?_, h.bad⟩
    rw [eB, b2_t c1', if_neg (by decide), b2_t c2', if_neg (by decide), if_neg c3, if_pos rfl]
  rw [b2_t c4, if_neg (by decide)]
  obtain ⟨i, hi, rfl⟩ := g.isP c1
  obtain ⟨j, hj, rfl⟩ := g.isP c2
  obtain ⟨N, _, hN, rfl⟩ := in_n (a := 0) (b := 2) (by omega) c4 (by omega)
  have hD := g.D
  obtain ⟨d, hd, ed⟩ := bn_nI (x := M.1 2 1) (n := 6) ⟨by have := hD.1; omega, hD.2⟩
  have hd1 : 2 ≤ d := by have := hD.1; rw [ed, nI_toInt (by omega)] at this; omega
  have hp := pow_bd hd (show 2 * N ≤ 5 by omega)
  have hp0 : 0 < d ^ (2 * N) := Nat.pow_pos (by omega)
  obtain ⟨M1, a1, a2, a3, a4, a5, a6, a7, a8⟩ := c_out g.1
  obtain ⟨Ma, b1, b2⟩ := c_ahead (a := i) (b := j) (n := n) (np := np) hd1 hd hi hj hN (2 * N) 0 8 M1 (by omega) (by omega) a3 (by rw [a6]; exact ed) (by rw [a2.1]; exact h.2.2.2.2.2.2.1)
  generalize hV : VC M1.1 102 = V at a3 a4 b1
  have kO : frO M Ma := ⟨b2.1.trans a2.1, fun x hx => by rw [b2.2.2 x (by omega), a2.2 x (fun z => by unfold inB at z; omega)]⟩
  have b1' : fX5_rowsAheadOn 8 101 (nI i) (nI j) 0 (nI (2 * N)) (lay M1) = _ := b1
  have hcl : fX5_rowsAhead 101 2 (nI i) (nI j) (nI N) (lay M) = some (nI (SS d n (Pa i j) (Fa i j) (2 * N) V), lay Ma) := by
    unfold fX5_rowsAhead
    rw [o_101, Option.bind_some, r_101_0, Option.bind_some, a1, gx_bd_some, show (2 : Int32) * nI N = nI (2 * N) from pk_mul 2 N, b1', gx_bd_some]
  have e123 : Ma.1 123 = M.1 123 := kO.2 123 (by omega)
  have e2 : Ma.1 2 = M.1 2 := kO.2 2 (by omega)
  have hS : SS d n (Pa i j) (Fa i j) (2 * N) V ≤ d ^ (2 * N) * 1 := sm_le _ (fun x _ => by unfold Fa; split <;> omega)
  obtain ⟨p, q', t1, t2⟩ := tell2 (x := SS d n (Pa i j) (Fa i j) (2 * N) V) (y := d ^ (2 * N)) (by omega) (by omega) hp0
  rw [hcl, gx_bd_some]
  simp only [r_0_0, r_0_4, r_1_0, Option.bind_some]
  rw [bi1 brd_2, Option.bind_some, e2, ed, show (2 : Int32) * nI N = nI (2 * N) from pk_mul 2 N, c_power _ (by omega), gx_bd_some, nI_J (by omega), nI_J (by omega), t1, gx_bd_some]
  have he : eqv n np V (VR (sJ (sJ Ma 0 6 p) 0 7 q').1 0) := by
    have : VR (sJ (sJ Ma 0 6 p) 0 7 q').1 0 = VR M.1 0 := by unfold VR; show (fun j => Ma.1 123 (0 + j)) = _; rw [e123]
    rw [this]
    exact eqv_tr a4 g.2.1
  have hD1 : (sJ (sJ Ma 0 6 p) 0 7 q').1 123 1 = nI d := by show Ma.1 123 1 = nI d; rw [e123, g.w1]; exact ed
  obtain ⟨Mb, x1, x2⟩ := r_ahead_55 (M0 := sJ (sJ Ma 0 6 p) 0 7 q') (V := V) hd1 hd hi hj hN hD1 a3 he (d ^ (2 * N)) 0 gx_N _ (by omega) (by unfold gx_N; omega) frW.rf
  have x2' : fX11_ahead_55 gx_N 122 (nI i) (nI j) (nI N) 0 (nI (d ^ (2 * N))) 0 (lay (sJ (sJ Ma 0 6 p) 0 7 q')) = _ := x2
  refine ⟨1, _, _, rfl, ?_, inv_told h (frO_kp kO) x1⟩
  rw [show (sJ (sJ Ma 0 6 p) 0 7 q').1 123 3 = M.1 123 3 from by show Ma.1 123 3 = _; rw [e123], b2_t c1', if_neg (by decide), b2_t c2', if_neg (by decide), if_neg c3, if_neg (by decide), r_rowsOf hD1 (by omega), gx_bd_some, x2', nI_J (by omega), nI_J (by omega), t2, gx_bd_some]
