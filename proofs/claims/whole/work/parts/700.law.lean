/-! the law's loop: every call answers alike, and what ties class and reference is kept -/
section LAW
theorem op_go {M : mm} {fc fm : gx_H → Option (Int32 × gx_H)} (op : Op fc fm) (h : Inv M) (k : gx_H → Option (Int32 × gx_H)) (hk : ∀ M2, Inv M2 → ∃ h', k (lay M2) = some (1, h')) : ∃ h', (gx_bd (fc (lay M)) fun x12 h11 => gx_bd (fm h11) fun x16 h15 => if x12 = x16 then k h15 else gx_ret .boolean (0 : Int32) h15) = some (1, h') := by
  obtain ⟨x, M1, M2, e1, e2, hI⟩ := op M h
  rw [e1, gx_bd_some, e2, gx_bd_some, if_pos rfl]
  exact hk M2 hI
theorem op_goJ {M : mm} {fc fm : gx_H → Option (Int64 × gx_H)} (op : Op fc fm) (h : Inv M) (k : gx_H → Option (Int32 × gx_H)) (hk : ∀ M2, Inv M2 → ∃ h', k (lay M2) = some (1, h')) : ∃ h', (gx_bd (fc (lay M)) fun x12 h11 => gx_bd (fm h11) fun x16 h15 => if (lg_cmp x12 x16) = 0 then k h15 else gx_ret .boolean (0 : Int32) h15) = some (1, h') := by
  obtain ⟨x, M1, M2, e1, e2, hI⟩ := op M h
  rw [e1, gx_bd_some, e2, gx_bd_some, if_pos ((lgc_eq x x).mpr rfl)]
  exact hk M2 hI
theorem sc_at {E : gx_Env} {L : Nat} {xs : Nat → Int32} (hE : E.2.2.2.2.2 = (L, xs)) {j : Nat} (hj : j < L) (hL : L ≤ 2560) : gx_sc E (nI j) = some (xs j) := by
  have e1 : gx_sN E = L := by unfold gx_sN; rw [hE]
  have e2 : gx_sX E = xs := by unfold gx_sX; rw [hE]
  unfold gx_sc
  rw [e1, e2, if_pos (nI_in hj (by omega)), cl_nI (by omega)]
set_option maxHeartbeats 4000000 in
theorem law_l {E : gx_Env} {L : Nat} {xs : Nat → Int32} (hE : E.2.2.2.2.2 = (L, xs)) (hL : L ≤ 2560) : ∀ (F i : Nat) (M : mm), Inv M → (i = 0 ∨ i ≤ L) → L < i + 5 * F → ∃ h', fL_law_18 E F 11 0 122 (nI i) (lay M) = some (1, h')
  | 0, i, M, _, hi, hF => by omega
  | F + 1, i, M, h, hi, hF => by
    have hc : ((Int32.ofNat (gx_sN E)) - (5 : Int32)) < nI i ↔ L < i + 5 := by
      have e1 : gx_sN E = L := by unfold gx_sN; rw [hE]
      rw [e1, show Int32.ofNat L - 5 = nI L - nI 5 from rfl, t_lt, pk_sub_toInt (by omega) (by omega), nI_toInt (by omega)]
      omega
    show ∃ h', bL_law_18 E (fL_law_18 E F) 11 0 122 (nI i) (lay M) = _
    by_cases c : L < i + 5
    · unfold bL_law_18
      rw [if_pos (hc.mpr c)]
      exact ⟨_, rfl⟩
    have s0 := sc_at hE (show i < L by omega) hL
    have s1 : gx_sc E (nI i + 1) = some (xs (i + 1)) := by rw [nI_1]; exact sc_at hE (by omega) hL
    have s2 : gx_sc E (nI i + 2) = some (xs (i + 2)) := by rw [nIl]; exact sc_at hE (by omega) hL
    have s3 : gx_sc E (nI i + 3) = some (xs (i + 3)) := by rw [nIl]; exact sc_at hE (by omega) hL
    have s4 : gx_sc E (nI i + 4) = some (xs (i + 4)) := by rw [nIl]; exact sc_at hE (by omega) hL
    have hk : ∀ M2, Inv M2 → ∃ h', fL_law_1235 E (fL_law_18 E F) 11 0 122 (nI i) (lay M2) = some (1, h') := fun M2 h2 => by
      unfold fL_law_1235
      rw [nIl]
      exact law_l hE hL F (i + 5) M2 h2 (by omega) (by omega)
    unfold bL_law_18
    rw [if_neg (fun z => c (hc.mp z)), s0, Option.bind_some]
    simp only [s1, s2, s3, s4, Option.bind_some]
    by_cases c0 : (xs i &&& (63 : Int32)) = (0 : Int32)
    · rw [if_pos c0]
      exact op_go (op_board (xs (i + 1)) (xs (i + 2))) h (fL_law_1235 E (fL_law_18 E F) 11 0 122 (nI i)) hk
    rw [if_neg c0]
    by_cases c1 : (xs i &&& (63 : Int32)) = (1 : Int32)
    · rw [if_pos c1]
      exact op_go (op_die (xs (i + 1))) h (fL_law_1235 E (fL_law_18 E F) 11 0 122 (nI i)) hk
    rw [if_neg c1]
    by_cases c2 : (xs i &&& (63 : Int32)) = (2 : Int32)
    · rw [if_pos c2]
      exact op_go (op_link (xs (i + 1)) (xs (i + 2)) (xs (i + 3))) h (fL_law_1235 E (fL_law_18 E F) 11 0 122 (nI i)) hk
    rw [if_neg c2]
    by_cases c3 : (xs i &&& (63 : Int32)) = (3 : Int32)
    · rw [if_pos c3]
      exact op_go (op_player (xs (i + 1))) h (fL_law_1235 E (fL_law_18 E F) 11 0 122 (nI i)) hk
    rw [if_neg c3]
    by_cases c4 : (xs i &&& (63 : Int32)) = (4 : Int32)
    · rw [if_pos c4]
      exact op_go (op_type (xs (i + 1))) h (fL_law_1235 E (fL_law_18 E F) 11 0 122 (nI i)) hk
    rw [if_neg c4]
    by_cases c5 : (xs i &&& (63 : Int32)) = (5 : Int32)
    · rw [if_pos c5]
      exact op_go (op_clear) h (fL_law_1235 E (fL_law_18 E F) 11 0 122 (nI i)) hk
    rw [if_neg c5]
    by_cases c6 : (xs i &&& (63 : Int32)) = (6 : Int32)
    · rw [if_pos c6]
      exact op_go (op_read) h (fL_law_1235 E (fL_law_18 E F) 11 0 122 (nI i)) hk
    rw [if_neg c6]
    by_cases c7 : (xs i &&& (63 : Int32)) = (7 : Int32)
    · rw [if_pos c7]
      exact op_go (op_rolls (xs (i + 1)) (xs (i + 2))) h (fL_law_1235 E (fL_law_18 E F) 11 0 122 (nI i)) hk
    rw [if_neg c7]
    by_cases c8 : (xs i &&& (63 : Int32)) = (8 : Int32)
    · rw [if_pos c8]
      exact op_go (op_sets (xs (i + 1)) (xs (i + 2))) h (fL_law_1235 E (fL_law_18 E F) 11 0 122 (nI i)) hk
    rw [if_neg c8]
    by_cases c9 : (xs i &&& (63 : Int32)) = (9 : Int32)
    · rw [if_pos c9]
      exact op_go (op_undo) h (fL_law_1235 E (fL_law_18 E F) 11 0 122 (nI i)) hk
    rw [if_neg c9]
    by_cases c10 : (xs i &&& (63 : Int32)) = (10 : Int32)
    · rw [if_pos c10]
      exact op_go (op_of (xs (i + 1)) (xs (i + 2))) h (fL_law_1235 E (fL_law_18 E F) 11 0 122 (nI i)) hk
    rw [if_neg c10]
    by_cases c11 : (xs i &&& (63 : Int32)) = (11 : Int32)
    · rw [if_pos c11]
      exact op_go (op_about (xs (i + 1)) (xs (i + 2))) h (fL_law_1235 E (fL_law_18 E F) 11 0 122 (nI i)) hk
    rw [if_neg c11]
    by_cases c12 : (xs i &&& (63 : Int32)) = (12 : Int32)
    · rw [if_pos c12]
      exact op_go (op_goes (xs (i + 1)) (xs (i + 2))) h (fL_law_1235 E (fL_law_18 E F) 11 0 122 (nI i)) hk
    rw [if_neg c12]
    by_cases c13 : (xs i &&& (63 : Int32)) = (13 : Int32)
    · rw [if_pos c13]
      exact op_go (op_few (xs (i + 1)) (xs (i + 2))) h (fL_law_1235 E (fL_law_18 E F) 11 0 122 (nI i)) hk
    rw [if_neg c13]
    by_cases c14 : (xs i &&& (63 : Int32)) = (14 : Int32)
    · rw [if_pos c14]
      exact op_go (op_home (xs (i + 1)) (xs (i + 2))) h (fL_law_1235 E (fL_law_18 E F) 11 0 122 (nI i)) hk
    rw [if_neg c14]
    by_cases c15 : (xs i &&& (63 : Int32)) = (15 : Int32)
    · rw [if_pos c15]
      exact op_go (op_mean (xs (i + 1)) (xs (i + 2))) h (fL_law_1235 E (fL_law_18 E F) 11 0 122 (nI i)) hk
    rw [if_neg c15]
    by_cases c16 : (xs i &&& (63 : Int32)) = (16 : Int32)
    · rw [if_pos c16]
      exact op_go (op_ahead (xs (i + 1)) (xs (i + 2)) (xs (i + 3))) h (fL_law_1235 E (fL_law_18 E F) 11 0 122 (nI i)) hk
    rw [if_neg c16]
    by_cases c17 : (xs i &&& (63 : Int32)) = (17 : Int32)
    · rw [if_pos c17]
      exact op_go (op_rather (xs (i + 1)) (xs (i + 2)) (xs (i + 3))) h (fL_law_1235 E (fL_law_18 E F) 11 0 122 (nI i)) hk
    rw [if_neg c17]
    by_cases c18 : (xs i &&& (63 : Int32)) = (18 : Int32)
    · rw [if_pos c18]
      exact op_go (op_without (xs (i + 1)) (xs (i + 2)) (xs (i + 3))) h (fL_law_1235 E (fL_law_18 E F) 11 0 122 (nI i)) hk
    rw [if_neg c18]
    by_cases c19 : (xs i &&& (63 : Int32)) = (19 : Int32)
    · rw [if_pos c19]
      exact op_go (op_span (xs (i + 1)) (xs (i + 2)) (xs (i + 3))) h (fL_law_1235 E (fL_law_18 E F) 11 0 122 (nI i)) hk
    rw [if_neg c19]
    by_cases c20 : (xs i &&& (63 : Int32)) = (20 : Int32)
    · rw [if_pos c20]
      exact op_go (op_note (xs (i + 1)) (xs (i + 2)) (xs (i + 3)) (xs (i + 4))) h (fL_law_1235 E (fL_law_18 E F) 11 0 122 (nI i)) hk
    rw [if_neg c20]
    by_cases c21 : (xs i &&& (63 : Int32)) = (21 : Int32)
    · rw [if_pos c21]
      exact op_go (op_mark (xs (i + 1)) (xs (i + 2)) (xs (i + 3)) (xs (i + 4))) h (fL_law_1235 E (fL_law_18 E F) 11 0 122 (nI i)) hk
    rw [if_neg c21]
    by_cases c22 : (xs i &&& (63 : Int32)) = (22 : Int32)
    · rw [if_pos c22]
      exact op_go (op_forget (xs (i + 1))) h (fL_law_1235 E (fL_law_18 E F) 11 0 122 (nI i)) hk
    rw [if_neg c22]
    by_cases c23 : (xs i &&& (63 : Int32)) = (23 : Int32)
    · rw [if_pos c23]
      exact op_go (op_is (xs (i + 1))) h (fL_law_1235 E (fL_law_18 E F) 11 0 122 (nI i)) hk
    rw [if_neg c23]
    by_cases c24 : (xs i &&& (63 : Int32)) = (24 : Int32)
    · rw [if_pos c24]
      exact op_go (op_look (xs (i + 1))) h (fL_law_1235 E (fL_law_18 E F) 11 0 122 (nI i)) hk
    rw [if_neg c24]
    by_cases c25 : (xs i &&& (63 : Int32)) = (25 : Int32)
    · rw [if_pos c25]
      exact op_go (op_kinds (xs (i + 1))) h (fL_law_1235 E (fL_law_18 E F) 11 0 122 (nI i)) hk
    rw [if_neg c25]
    by_cases c26 : (xs i &&& (63 : Int32)) = (26 : Int32)
    · rw [if_pos c26]
      exact op_go (op_ask (xs (i + 1))) h (fL_law_1235 E (fL_law_18 E F) 11 0 122 (nI i)) hk
    rw [if_neg c26]
    by_cases c27 : (xs i &&& (63 : Int32)) = (27 : Int32)
    · rw [if_pos c27]
      exact op_go (op_choice (xs (i + 1)) (xs (i + 2)) (xs (i + 3))) h (fL_law_1235 E (fL_law_18 E F) 11 0 122 (nI i)) hk
    rw [if_neg c27]
    by_cases c28 : (xs i &&& (63 : Int32)) = (28 : Int32)
    · rw [if_pos c28]
      exact op_go (op_evenings (xs (i + 1)) (xs (i + 2))) h (fL_law_1235 E (fL_law_18 E F) 11 0 122 (nI i)) hk
    rw [if_neg c28]
    by_cases c29 : (xs i &&& (63 : Int32)) = (29 : Int32)
    · rw [if_pos c29]
      exact op_goJ (op_part (xs (i + 1))) h (fL_law_1235 E (fL_law_18 E F) 11 0 122 (nI i)) hk
    rw [if_neg c29]
    by_cases c30 : (xs i &&& (63 : Int32)) = (30 : Int32)
    · rw [if_pos c30]
      exact op_go (op_image (xs (i + 1))) h (fL_law_1235 E (fL_law_18 E F) 11 0 122 (nI i)) hk
    rw [if_neg c30]
    by_cases c31 : (xs i &&& (63 : Int32)) = (31 : Int32)
    · rw [if_pos c31]
      exact op_go (op_from (xs (i + 1))) h (fL_law_1235 E (fL_law_18 E F) 11 0 122 (nI i)) hk
    rw [if_neg c31]
    by_cases c32 : (xs i &&& (63 : Int32)) = (32 : Int32)
    · rw [if_pos c32]
      exact op_go (op_status (xs (i + 1))) h (fL_law_1235 E (fL_law_18 E F) 11 0 122 (nI i)) hk
    rw [if_neg c32]
    by_cases c33 : (xs i &&& (63 : Int32)) = (33 : Int32)
    · rw [if_pos c33]
      exact op_go (op_count (xs (i + 1))) h (fL_law_1235 E (fL_law_18 E F) 11 0 122 (nI i)) hk
    rw [if_neg c33]
    by_cases c34 : (xs i &&& (63 : Int32)) = (34 : Int32)
    · rw [if_pos c34]
      exact op_goJ (op_digest) h (fL_law_1235 E (fL_law_18 E F) 11 0 122 (nI i)) hk
    rw [if_neg c34]
    exact hk M h
end LAW
