/-! the history: the class's Steps, the reference's pictures -/
def frS (S : Nat → Prop) (M M' : mm) : Prop := M'.2 = M.2 ∧ (∀ a, a ≠ 123 → M'.1 a = M.1 a) ∧ ∀ j, ¬ S j → M'.1 123 j = M.1 123 j
theorem frS.rf {S : Nat → Prop} {M : mm} : frS S M M := ⟨rfl, fun _ _ => rfl, fun _ _ => rfl⟩
theorem frS.put {S : Nat → Prop} {M M' : mm} {j : Nat} {x : Int32} (h : frS S M M') (hj : S j) : frS S M (sI M' 123 j x) := ⟨h.1, fun a ha => (up2_c M'.1 x ha).trans (h.2.1 a ha), fun k hk => (up2_n M'.1 x (fun q => hk (by rw [q.2]; exact hj))).trans (h.2.2 k hk)⟩
theorem frS.tr {S : Nat → Prop} {M M' M'' : mm} (h : frS S M M') (h2 : frS S M' M'') : frS S M M'' := ⟨h2.1.trans h.1, fun a ha => (h2.2.1 a ha).trans (h.2.1 a ha), fun j hj => (h2.2.2 j hj).trans (h.2.2 j hj)⟩
theorem frS.mono {S T : Nat → Prop} {M M' : mm} (h : frS S M M') (hs : ∀ j, S j → T j) : frS T M M' := ⟨h.1, h.2.1, fun j hj => h.2.2 j (fun q => hj (hs j q))⟩
theorem frW.S {lo hi : Nat} {M M' : mm} (h : frW lo hi M M') : frS (fun j => lo ≤ j ∧ j < hi) M M' := ⟨h.1, h.2.1, fun j hj => h.2.2 j (by omega)⟩
theorem frS.W {lo hi : Nat} {M M' : mm} (h : frS (fun j => lo ≤ j ∧ j < hi) M M') : frW lo hi M M' := ⟨h.1, h.2.1, fun j hj => h.2.2 j (by omega)⟩
theorem r_minds_14 : ∀ (m j F : Nat) (M : mm), j + m = 98 → m < F → ∃ M', fX11_minds_14 F 122 (nI j) (lay M) = fX11_minds_58 122 (lay (sI M' 123 90 (M'.1 123 90 - 1))) ∧ frS (fun x => 91 + j ≤ x ∧ x < 189) M M' ∧ ∀ i, j ≤ i → i < 98 → M'.1 123 (91 + i) = M.1 123 (91 + i + 14)
  | m, j, 0, M, _, hF => by omega
  | 0, j, F + 1, M, hj, _ => by
    show ∃ M', bX11_minds_14 (fX11_minds_14 F) 122 (nI j) (lay M) = _ ∧ _
    unfold bX11_minds_14
    rw [if_pos (show (98 : Int32) ≤ nI j from nI_le (a := 98) (by omega) (by omega))]
    simp only [r_122_0, Option.bind_some, show (90 : Int32) = nI 90 from rfl, ra (show 90 < 852 by omega), rs (show 90 < 852 by omega)]
    exact ⟨M, rfl, frS.rf, fun i h1 h2 => by omega⟩
  | m + 1, j, F + 1, M, hj, hF => by
    show ∃ M', bX11_minds_14 (fX11_minds_14 F) 122 (nI j) (lay M) = _ ∧ _
    unfold bX11_minds_14
    rw [if_neg (show ¬ (98 : Int32) ≤ nI j from nI_ge (b := 98) (by omega) (by omega))]
    simp only [r_122_0, Option.bind_some, nIl, nIl', ra (show 91 + j + 14 < 852 by omega), rs (show 91 + j < 852 by omega)]
    obtain ⟨M', e1, e2, e3⟩ := r_minds_14 m (j + 1) F (sI M 123 (91 + j) (M.1 123 (91 + j + 14))) (by omega) (by omega)
    refine ⟨M', e1, ((frS.rf (M := M)).put (j := 91 + j) ⟨by omega, by omega⟩).tr (e2.mono (fun x q => ⟨by omega, by omega⟩)), fun i h1 h2 => ?_⟩
    by_cases q : i = j
    · subst q; rw [e2.2.2 (91 + i) (by omega), sI_s]
    · rw [e3 i (by omega) h2, sI_n (by omega)]
theorem r_minds_74 {p : Nat} (hp : 91 ≤ p) (hp2 : p + 14 ≤ 203) : ∀ (m i F : Nat) (M : mm), i + m = 4 → m < F → ∃ M', fX11_minds_74 F 122 (nI p) (nI i) (lay M) = fX11_minds_123 gx_N 122 (nI p) 0 (lay M') ∧ frS (fun x => (p + i ≤ x ∧ x < p + 4) ∨ (p + 4 + i ≤ x ∧ x < p + 8)) M M' ∧ ∀ j, i ≤ j → j < 4 → M'.1 123 (p + j) = M.1 123 (32 + j) ∧ M'.1 123 (p + 4 + j) = M.1 123 (36 + j)
  | m, i, 0, M, _, hF => by omega
  | 0, i, F + 1, M, hj, _ => by
    show ∃ M', bX11_minds_74 (fX11_minds_74 F) 122 (nI p) (nI i) (lay M) = _ ∧ _
    unfold bX11_minds_74
    rw [if_pos (show (4 : Int32) ≤ nI i from nI_le (a := 4) (by omega) (by omega))]
    exact ⟨M, rfl, frS.rf, fun i h1 h2 => by omega⟩
  | m + 1, i, F + 1, M, hj, hF => by
    show ∃ M', bX11_minds_74 (fX11_minds_74 F) 122 (nI p) (nI i) (lay M) = _ ∧ _
    unfold bX11_minds_74
    rw [if_neg (show ¬ (4 : Int32) ≤ nI i from nI_ge (b := 4) (by omega) (by omega))]
    simp only [r_122_0, Option.bind_some, nIl, nIl', nI_add, ra (show 32 + i < 852 by omega), rs (show p + i < 852 by omega), ra (show 36 + i < 852 by omega), rs (show p + 4 + i < 852 by omega)]
    rw [sI_n (show 36 + i ≠ p + i by omega)]
    obtain ⟨M', e1, e2, e3⟩ := r_minds_74 hp hp2 m (i + 1) F (sI (sI M 123 (p + i) (M.1 123 (32 + i))) 123 (p + 4 + i) (M.1 123 (36 + i))) (by omega) (by omega)
    refine ⟨M', e1, (((frS.rf (M := M)).put (j := p + i) (Or.inl ⟨by omega, by omega⟩)).put (j := p + 4 + i) (Or.inr ⟨by omega, by omega⟩)).tr (e2.mono (fun x q => by omega)), fun j h1 h2 => ?_⟩
    by_cases q : j = i
    · subst q
      rw [e2.2.2 (p + j) (by omega), e2.2.2 (p + 4 + j) (by omega), sI_n (by omega), sI_s, sI_s]
      exact ⟨rfl, rfl⟩
    · obtain ⟨x1, x2⟩ := e3 j (by omega) h2
      rw [x1, x2, sI_n (by omega), sI_n (by omega), sI_n (by omega), sI_n (by omega)]
      exact ⟨rfl, rfl⟩
theorem r_minds_123 {p : Nat} (hp : 91 ≤ p) (hp2 : p + 14 ≤ 203) : ∀ (m k F : Nat) (M : mm), k + m = 6 → m < F → ∃ M', fX11_minds_123 F 122 (nI p) (nI k) (lay M) = some ((), lay (sI M' 123 90 (M'.1 123 90 + 1))) ∧ frS (fun x => p + 8 + k ≤ x ∧ x < p + 14) M M' ∧ ∀ j, k ≤ j → j < 6 → M'.1 123 (p + 8 + j) = M.1 123 (22 + j)
  | m, k, 0, M, _, hF => by omega
  | 0, k, F + 1, M, hj, _ => by
    show ∃ M', bX11_minds_123 (fX11_minds_123 F) 122 (nI p) (nI k) (lay M) = _ ∧ _
    unfold bX11_minds_123
    rw [if_pos (show (6 : Int32) ≤ nI k from nI_le (a := 6) (by omega) (by omega))]
    simp only [r_122_0, Option.bind_some, show (90 : Int32) = nI 90 from rfl, ra (show 90 < 852 by omega), rs (show 90 < 852 by omega)]
    exact ⟨M, rfl, frS.rf, fun i h1 h2 => by omega⟩
  | m + 1, k, F + 1, M, hj, hF => by
    show ∃ M', bX11_minds_123 (fX11_minds_123 F) 122 (nI p) (nI k) (lay M) = _ ∧ _
    unfold bX11_minds_123
    rw [if_neg (show ¬ (6 : Int32) ≤ nI k from nI_ge (b := 6) (by omega) (by omega))]
    simp only [r_122_0, Option.bind_some, nIl, nIl', nI_add, ra (show 22 + k < 852 by omega), rs (show p + 8 + k < 852 by omega)]
    obtain ⟨M', e1, e2, e3⟩ := r_minds_123 hp hp2 m (k + 1) F (sI M 123 (p + 8 + k) (M.1 123 (22 + k))) (by omega) (by omega)
    refine ⟨M', e1, ((frS.rf (M := M)).put (j := p + 8 + k) ⟨by omega, by omega⟩).tr (e2.mono (fun x q => by omega)), fun j h1 h2 => ?_⟩
    by_cases q : j = k
    · subst q; rw [e2.2.2 (p + 8 + j) (by omega), sI_s]
    · rw [e3 j (by omega) h2, sI_n (by omega)]
theorem r_minds_58 {M : mm} {h1 : Nat} (h8 : h1 < 8) (e90 : M.1 123 90 = nI h1) : ∃ M', fX11_minds_58 122 (lay M) = some ((), lay M') ∧ frS (fun x => x = 90 ∨ (91 + 14 * h1 ≤ x ∧ x < 91 + 14 * h1 + 14)) M M' ∧ M'.1 123 90 = nI (h1 + 1) ∧ (∀ j, j < 4 → M'.1 123 (91 + 14 * h1 + j) = M.1 123 (32 + j) ∧ M'.1 123 (91 + 14 * h1 + 4 + j) = M.1 123 (36 + j)) ∧ ∀ k, k < 6 → M'.1 123 (91 + 14 * h1 + 8 + k) = M.1 123 (22 + k) := by
  unfold fX11_minds_58
  simp only [r_122_0, Option.bind_some, show (90 : Int32) = nI 90 from rfl, ra (show 90 < 852 by omega), e90, show (14 : Int32) = nI 14 from rfl, show (91 : Int32) = nI 91 from rfl, pk_mul, nI_add]
  obtain ⟨M1, a1, a2, a3⟩ := r_minds_74 (p := 91 + 14 * h1) (by omega) (by omega) 4 0 gx_N M (by omega) (by unfold gx_N; omega)
  obtain ⟨M2, b1, b2, b3⟩ := r_minds_123 (p := 91 + 14 * h1) (by omega) (by omega) 6 0 gx_N M1 (by omega) (by unfold gx_N; omega)
  have e : M2.1 123 90 = nI h1 := by rw [b2.2.2 90 (by omega), a2.2.2 90 (by omega), e90]
  refine ⟨_, a1.trans b1, ?_, ?_, fun j hj => ?_, fun k hk => ?_⟩
  · exact ((a2.mono (fun x q => by omega)).tr (b2.mono (fun x q => by omega))).put (Or.inl rfl)
  · rw [sI_s, e, nI_1]
  · rw [sI_n (by omega), sI_n (by omega), b2.2.2 _ (by omega), b2.2.2 _ (by omega)]
    exact a3 j (by omega) hj
  · rw [sI_n (by omega), b3 k (by omega) hk, a2.2.2 _ (by omega)]
/-- o = 1 where the oldest goes -/
theorem r_minds {M : mm} {hs : Nat} (h8 : hs ≤ 8) (e90 : M.1 123 90 = nI hs) : ∃ (M' : mm) (o h1 : Nat), fX11_minds 122 (lay M) = some ((), lay M') ∧ hs = h1 + o ∧ (o = if hs = 8 then 1 else 0) ∧ frW 90 203 M M' ∧ M'.1 123 90 = nI (h1 + 1) ∧ (∀ j, j < 4 → M'.1 123 (91 + 14 * h1 + j) = M.1 123 (32 + j) ∧ M'.1 123 (91 + 14 * h1 + 4 + j) = M.1 123 (36 + j)) ∧ (∀ k, k < 6 → M'.1 123 (91 + 14 * h1 + 8 + k) = M.1 123 (22 + k)) ∧ ∀ i, i < 14 * h1 → M'.1 123 (91 + i) = M.1 123 (91 + i + 14 * o) := by
  unfold fX11_minds
  simp only [o_122, r_122_0, Option.bind_some, show (90 : Int32) = nI 90 from rfl, ra (show 90 < 852 by omega), e90]
  by_cases c : hs = 8
  · subst c
    rw [if_pos (show nI 8 = (8 : Int32) from rfl)]
    obtain ⟨M1, a1, a2, a3⟩ := r_minds_14 98 0 gx_N M (by omega) (by unfold gx_N; omega)
    have e7 : (sI M1 123 90 (M1.1 123 90 - 1)).1 123 90 = nI 7 := by rw [sI_s, a2.2.2 90 (by omega), e90]; exact nI_pred 7
    obtain ⟨M2, b1, b2, b3, b4, b5⟩ := r_minds_58 (by omega) e7
    refine ⟨M2, 1, 7, a1.trans b1, rfl, rfl, ?_, b3, fun j hj => ?_, fun k hk => ?_, fun i hi => ?_⟩
    · exact ((((a2.mono (fun x q => ⟨by omega, by omega⟩)).put (j := 90) ⟨by omega, by omega⟩).tr (b2.mono (fun x q => ⟨by omega, by omega⟩))).W : frW 90 203 M M2)
    · obtain ⟨x1, x2⟩ := b4 j hj
      rw [x1, x2, sI_n (by omega), sI_n (by omega), a2.2.2 _ (by omega), a2.2.2 _ (by omega)]
      exact ⟨rfl, rfl⟩
    · rw [b5 k hk, sI_n (by omega), a2.2.2 _ (by omega)]
    · rw [b2.2.2 (91 + i) (by omega), sI_n (by omega), a3 i (by omega) (by omega)]
  · rw [if_neg (show ¬ nI hs = (8 : Int32) from fun z => c ((nI_eq (b := 8) (by omega) (by omega)).mp z))]
    obtain ⟨M2, b1, b2, b3, b4, b5⟩ := r_minds_58 (M := M) (h1 := hs) (by omega) e90
    refine ⟨M2, 0, hs, b1, rfl, by rw [if_neg c], (b2.mono (fun x q => ⟨by omega, by omega⟩)).W, b3, b4, b5, fun i hi => ?_⟩
    rw [b2.2.2 (91 + i) (by omega)]
    rfl
theorem sP_1 {M : mm} {a j : Nat} {x : Option Nat} : (sP M a j x).1 = M.1 := rfl
theorem sP_2 {M : mm} {a j : Nat} {x : Option Nat} : (sP M a j x).2.1 = M.2.1 := rfl
theorem sP_s {M : mm} {a j : Nat} {x : Option Nat} : (sP M a j x).2.2 a j = x := up2_s _ _ _ _
theorem sP_n {M : mm} {a j k : Nat} {x : Option Nat} (h : k ≠ j) : (sP M a j x).2.2 a k = M.2.2 a k := up2_n _ _ (fun q => h q.2)
theorem sP_o {M : mm} {a j c : Nat} {x : Option Nat} (h : c ≠ a) : (sP M a j x).2.2 c = M.2.2 c := up2_c _ _ h
theorem st_C {x : Nat} (h : 11 ≤ x) (h2 : x < 19) : isC (1 + x) 6 = true := by
  rcases (show x = 11 ∨ x = 12 ∨ x = 13 ∨ x = 14 ∨ x = 15 ∨ x = 16 ∨ x = 17 ∨ x = 18 by omega) with rfl | rfl | rfl | rfl | rfl | rfl | rfl | rfl <;> decide
theorem ar11 {M : mm} {j : Nat} (h : j < 8) : gx_aR 3 (lay M) 11 (nI j) = M.2.2 11 j := aR_lay 8 (by decide) (by decide) h (by decide)
theorem sr11 {M : mm} {j v : Nat} (h : j < 8) : gx_sR 3 (lay M) 11 (nI j) v = some (lay (sP M 11 j (some v))) := sR_lay 8 (by decide) (by decide) h (by decide)
theorem c_drop_l {q : Nat → Nat} (hq : ∀ j, j < 8 → 11 ≤ q j ∧ q j < 19) {v : Nat} (hv : isC v 6 = true) : ∀ (m j F : Nat) (M : mm), (j + 1) + m = 8 → m < F → (∀ i, j < i → i < 8 → M.2.2 11 i = some (1 + q i)) → ∃ M', fX3_dropOldest_9 F 10 v (nI (j + 1)) (lay M) = some ((), lay M') ∧ M'.1 = up2 M.1 10 0 7 ∧ M'.2.1 = M.2.1 ∧ (∀ a, a ≠ 11 → M'.2.2 a = M.2.2 a) ∧ (∀ i, i < j → M'.2.2 11 i = M.2.2 11 i) ∧ (∀ i, j ≤ i → i < 7 → M'.2.2 11 i = some (1 + q (i + 1))) ∧ M'.2.2 11 7 = some v
  | m, j, 0, M, _, hF, _ => by omega
  | 0, j, F + 1, M, hj, _, hP => by
    show ∃ M', bX3_dropOldest_9 (fX3_dropOldest_9 F) 10 v (nI (j + 1)) (lay M) = _ ∧ _
    unfold bX3_dropOldest_9
    rw [if_pos (show (8 : Int32) ≤ nI (j + 1) from nI_le (a := 8) (by omega) (by omega))]
    simp only [r_10_1, Option.bind_some, isO_lay hv (show 6 < 10 by decide), show (7 : Int32) = nI 7 from rfl, sr11 (show 7 < 8 by omega), pi_10_0]
    exact ⟨_, rfl, rfl, rfl, fun a ha => sP_o ha, fun i hi => sP_n (by omega), fun i h1 h2 => by omega, sP_s⟩
  | m + 1, j, F + 1, M, hj, hF, hP => by
    show ∃ M', bX3_dropOldest_9 (fX3_dropOldest_9 F) 10 v (nI (j + 1)) (lay M) = _ ∧ _
    unfold bX3_dropOldest_9
    rw [if_neg (show ¬ (8 : Int32) ≤ nI (j + 1) from nI_ge (b := 8) (by omega) (by omega))]
    have hs := st_C (hq (j + 1) (by omega)).1 (hq (j + 1) (by omega)).2
    simp only [r_10_1, Option.bind_some, ar11 (show j + 1 < 8 by omega), hP (j + 1) (by omega) (by omega), isO_lay hs (show 6 < 10 by decide), nI_pred, nIl, sr11 (show j < 8 by omega)]
    obtain ⟨M', e1, e2, e3, e4, e5, e6, e7⟩ := c_drop_l hq hv m (j + 1) F (sP M 11 j (some (1 + q (j + 1)))) (by omega) (by omega) (fun i h1 h2 => by rw [sP_n (by omega)]; exact hP i (by omega) h2)
    refine ⟨M', e1, e2, e3, fun a ha => (e4 a ha).trans (sP_o ha), fun i hi => (e5 i (by omega)).trans (sP_n (by omega)), fun i h1 h2 => ?_, e7⟩
    by_cases z : i = j
    · subst z; rw [e5 i (by omega), sP_s]
    · exact e6 i (by omega) h2
theorem c_next {M : mm} {hs : Nat} {q : Nat → Nat} (h8 : hs ≤ 8) (e10 : M.1 10 0 = nI hs) (hq : ∀ j, j < 8 → M.2.2 11 j = some (1 + q j) ∧ 11 ≤ q j ∧ q j < 19) (hi : ∀ i j, i < 8 → j < 8 → q i = q j → i = j) : ∃ (M' : mm) (o h1 : Nat) (q' : Nat → Nat), fX3_nextStep 10 (lay M) = some (1 + q' h1, lay M') ∧ hs = h1 + o ∧ (o = if hs = 8 then 1 else 0) ∧ h1 < 8 ∧ M'.1 10 0 = nI (h1 + 1) ∧ (∀ a, a ≠ 10 → M'.1 a = M.1 a) ∧ M'.2.1 = M.2.1 ∧ (∀ a, a ≠ 11 → M'.2.2 a = M.2.2 a) ∧ (∀ j, j < 8 → M'.2.2 11 j = some (1 + q' j) ∧ 11 ≤ q' j ∧ q' j < 19) ∧ (∀ i j, i < 8 → j < 8 → q' i = q' j → i = j) ∧ ∀ j, j < h1 → q' j = q (j + o) := by
  unfold fX3_nextStep fX3_nextStep_13
  simp only [o_10, i_10_0, r_10_1, pi_10_0, Option.bind_some, e10]
  by_cases c : hs = 8
  · subst c
    rw [if_neg (show ¬ nI 8 < (8 : Int32) by decide)]
    unfold fX3_dropOldest
    rw [o_10, Option.bind_some, r_10_1, Option.bind_some, show (0 : Int32) = nI 0 from rfl, ar11 (show 0 < 8 by omega), (hq 0 (by omega)).1, Option.bind_some]
    obtain ⟨M1, e1, e2, e3, e4, e5, e6, e7⟩ := c_drop_l (q := q) (fun j hj => (hq j hj).2) (v := 1 + q 0) (st_C (hq 0 (by omega)).2.1 (hq 0 (by omega)).2.2) 7 0 gx_N M (by omega) (by unfold gx_N; omega) (fun i h1 h2 => (hq i h2).1)
    have x7 : M1.1 10 0 = nI 7 := by rw [e2, up2_s]; rfl
    have e1' : fX3_dropOldest_9 gx_N 10 (1 + q 0) 1 (lay M) = some ((), lay M1) := e1
    rw [e1', gx_bd_some]
    simp only [i_10_0, r_10_1, pi_10_0, Option.bind_some, x7, ar11 (show 7 < 8 by omega), e7]
    refine ⟨_, 1, 7, fun j => if j = 7 then q 0 else q (j + 1), rfl, rfl, rfl, by omega, ?_, fun a ha => ?_, e3, fun a ha => e4 a ha, fun j hj => ?_, fun i j hi' hj' z => ?_, fun j hj => ?_⟩
    · rw [sI_s]; exact nI_1 7
    · rw [sI_o ha, e2, up2_c _ _ ha]
    · show M1.2.2 11 j = some (1 + if j = 7 then q 0 else q (j + 1)) ∧ 11 ≤ (if j = 7 then q 0 else q (j + 1)) ∧ (if j = 7 then q 0 else q (j + 1)) < 19
      by_cases z : j = 7
      · subst z
        rw [e7, if_pos rfl]
        exact ⟨rfl, (hq 0 (by omega)).2⟩
      · rw [e6 j (by omega) (by omega), if_neg z]
        exact ⟨rfl, (hq (j + 1) (by omega)).2⟩
    · dsimp only at z
      by_cases z1 : i = 7 <;> by_cases z2 : j = 7
      · omega
      · rw [if_pos z1, if_neg z2] at z; have := hi 0 (j + 1) (by omega) (by omega) z; omega
      · rw [if_neg z1, if_pos z2] at z; have := hi (i + 1) 0 (by omega) (by omega) z; omega
      · rw [if_neg z1, if_neg z2] at z; have := hi (i + 1) (j + 1) (by omega) (by omega) z; omega
    · exact if_neg (by omega)
  · have hlt : hs < 8 := by omega
    rw [if_pos (show nI hs < (8 : Int32) from nI_lt (b := 8) hlt (by omega)), ar11 hlt, (hq hs hlt).1]
    simp only [Option.bind_some, nIl]
    exact ⟨_, 0, hs, q, rfl, rfl, by rw [if_neg c], hlt, sI_s, fun a ha => sI_o ha, rfl, fun a ha => rfl, hq, hi, fun j hj => rfl⟩
theorem chain_move {F F' : Nat → Nat → Int32} {w w' : Nat → Int32} {n np o : Nat} (hn : n ≤ 6) (hp : np ≤ 4) : ∀ (h1 : Nat) (V : Nat → Int32), (∀ j, j < h1 → F' j = F (j + o)) → (∀ i, i < 14 * h1 → w' (91 + i) = w (91 + i + 14 * o)) → chain F w n np (h1 + o) V → chain F' w' n np h1 V
  | 0, V, _, _, _ => trivial
  | h1 + 1, V, hF, hw, h => by
    rw [show h1 + 1 + o = (h1 + o) + 1 by omega] at h
    obtain ⟨a1, a2, a3, a4⟩ := h
    have e := hF h1 (by omega)
    rw [← e] at a1 a2 a3 a4
    refine ⟨a1, a2, ⟨fun i hi => ?_, fun k hk => ?_⟩, chain_move hn hp h1 _ (fun j hj => hF j (by omega)) (fun i hi => hw i (by omega)) a4⟩
    · have x := a3.1 i hi
      rw [← x.1, ← x.2, show 91 + 14 * h1 + i = 91 + (14 * h1 + i) by omega, show 91 + 14 * h1 + 4 + i = 91 + (14 * h1 + 4 + i) by omega, hw _ (by omega), hw _ (by omega), show 91 + 14 * (h1 + o) + i = 91 + (14 * h1 + i) + 14 * o by omega, show 91 + 14 * (h1 + o) + 4 + i = 91 + (14 * h1 + 4 + i) + 14 * o by omega]
      exact ⟨rfl, rfl⟩
    · rw [← a3.2 k hk, show 91 + 14 * h1 + 8 + k = 91 + (14 * h1 + 8 + k) by omega, hw _ (by omega), show 91 + 14 * (h1 + o) + 8 + k = 91 + (14 * h1 + 8 + k) + 14 * o by omega]
/-- the rows' bounds go over -/
theorem eqv_ok {n np : Nat} {V W : Nat → Int32} (h : eqv n np V W) (hv : okV V n np) : okV W n np := by
  obtain ⟨a1, a2, a3, a4, a5, a6, a7, a8⟩ := hv
  obtain ⟨h0, h1, h2, h3, hk, hi⟩ := h
  refine ⟨by rw [← h2]; exact a1, a2, by rw [← h3]; exact a3, a4, by rw [← h0]; exact a5, by rw [← h1]; exact a6, fun k q => ?_, fun i q => ?_⟩
  · rw [← h0, ← (hk k q).2.2.1, ← (hk k q).2.2.2]; exact a7 k q
  · rw [← h0, ← (hi i q).2.1, ← (hi i q).2.2]; exact a8 i q
theorem eqv_go {n np i : Nat} {V W : Nat → Int32} {r : Int32} (h : eqv n np V W) (hi : i < np) : goV V i r = goV W i r := by
  unfold goV
  rw [h.1, (h.2.2.2.2.2 i hi).1, (h.2.2.2.2.2 i hi).2.1]
theorem eqv_met {n np i : Nat} {V W : Nat → Int32} {r : Int32} (h : eqv n np V W) (hi : i < np) : metV V n i r = metV W n i r := by
  unfold metV
  rw [eqv_go h hi, (h.2.2.2.2.2 i hi).2.1, lkG_eq (g := fun k => W (10 + k)) (fun j h1 h2 => (h.2.2.2.2.1 j (by omega)).2.1)]
theorem eqv_ld {n np i k : Nat} {V W : Nat → Int32} {r : Int32} (h : eqv n np V W) (hi : i < np) (hk : k < n) : ldV V i k r = ldV W i k r := by
  unfold ldV
  obtain ⟨x1, x2, x3, x4⟩ := h.2.2.2.2.1 k hk
  rw [eqv_go h hi, h.1, x1, x3, x4]
theorem eqv_sq {n np i : Nat} {V W : Nat → Int32} {r : Int32} (h : eqv n np V W) (hi : i < np) : sqV V n i r = sqV W n i r := by
  unfold sqV
  rw [eqv_met h hi]
  cases hm : metV W n i r with
  | none => exact eqv_go h hi
  | some k => exact eqv_ld h hi (metV_lt hm).1
theorem eqv_thr {n np i : Nat} {V W : Nat → Int32} {r : Int32} (h : eqv n np V W) (hi : i < np) : eqv n np (thr V n i r) (thr W n i r) := by
  refine eqv_iff.mpr (fun j hj => ?_)
  have e := eqv_iff.mp h j hj
  have et := (h.2.2.2.2.2 i hi).2.2
  unfold thr
  rw [eqv_met h hi]
  cases hm : metV W n i r with
  | none =>
    dsimp only
    rw [eqv_go h hi, et]
    by_cases c1 : j = 36 + i
    · subst c1; rw [upd_s, upd_s]
    rw [upd_n _ _ c1, upd_n _ _ c1]
    by_cases c2 : j = 32 + i
    · subst c2; rw [upd_s, upd_s]
    rw [upd_n _ _ c2, upd_n _ _ c2]
    exact e
  | some k =>
    have hk := (metV_lt hm).1
    dsimp only
    rw [eqv_ld h hi hk, et, (h.2.2.2.2.1 k hk).2.2.2]
    by_cases c1 : j = 36 + i
    · subst c1; rw [upd_s, upd_s]
    rw [upd_n _ _ c1, upd_n _ _ c1]
    by_cases c2 : j = 32 + i
    · subst c2; rw [upd_s, upd_s]
    rw [upd_n _ _ c2, upd_n _ _ c2]
    by_cases c3 : j = 22 + k
    · subst c3; rw [upd_s, upd_s]
    rw [upd_n _ _ c3, upd_n _ _ c3]
    exact e
