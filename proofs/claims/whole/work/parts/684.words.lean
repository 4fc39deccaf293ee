/-! words -/
def wB : List Int32 := [98, 111, 97, 114, 100]
def wL : List Int32 := [108, 105, 110, 107]
def wP : List Int32 := [112, 108, 97, 121, 101, 114]
def wS : List Int32 := [115, 101, 116]
def wT : List Int32 := [116, 104, 114, 111, 119]
section WRD
variable {t : Nat} {tx : Nat → Int32}
def wk (tx : Nat → Int32) (s : Nat) (w : List Int32) (k : Nat) : Bool := decide (tx (s + k) = w.getD k 0)
def wq (t : Nat) (tx : Nat → Int32) (s : Nat) (w : List Int32) : Bool := decide (le t tx s - s = w.length) && al (wk tx s w) w.length 0
def isW (v : Nat) (w : List Int32) : Prop := (∀ h, fJ0_length_8abf5 v h = some (nI w.length, h)) ∧ ∀ k, k < w.length → ∀ h, fJ0_charAt_5068e v (nI k) h = some (w.getD k 0, h)
theorem isW_0 : isW 0 wB := ⟨fun h => congrArg (fun x : Int32 => some (x, h)) (show (Int32.ofNat 5) >>> ((0 : Int32) &&& 31) = nI 5 by decide), fun k hk h => by
  have hk' : k < 5 := hk
  rcases (show k = 0 ∨ k = 1 ∨ k = 2 ∨ k = 3 ∨ k = 4 by omega) with rfl | rfl | rfl | rfl | rfl <;> rfl⟩
theorem isW_1 : isW 1 wL := ⟨fun h => congrArg (fun x : Int32 => some (x, h)) (show (Int32.ofNat 4) >>> ((0 : Int32) &&& 31) = nI 4 by decide), fun k hk h => by
  have hk' : k < 4 := hk
  rcases (show k = 0 ∨ k = 1 ∨ k = 2 ∨ k = 3 by omega) with rfl | rfl | rfl | rfl <;> rfl⟩
theorem isW_2 : isW 2 wP := ⟨fun h => congrArg (fun x : Int32 => some (x, h)) (show (Int32.ofNat 6) >>> ((0 : Int32) &&& 31) = nI 6 by decide), fun k hk h => by
  have hk' : k < 6 := hk
  rcases (show k = 0 ∨ k = 1 ∨ k = 2 ∨ k = 3 ∨ k = 4 ∨ k = 5 by omega) with rfl | rfl | rfl | rfl | rfl | rfl <;> rfl⟩
theorem isW_3 : isW 3 wS := ⟨fun h => congrArg (fun x : Int32 => some (x, h)) (show (Int32.ofNat 3) >>> ((0 : Int32) &&& 31) = nI 3 by decide), fun k hk h => by
  have hk' : k < 3 := hk
  rcases (show k = 0 ∨ k = 1 ∨ k = 2 by omega) with rfl | rfl | rfl <;> rfl⟩
theorem isW_4 : isW 4 wT := ⟨fun h => congrArg (fun x : Int32 => some (x, h)) (show (Int32.ofNat 5) >>> ((0 : Int32) &&& 31) = nI 5 by decide), fun k hk h => by
  have hk' : k < 5 := hk
  rcases (show k = 0 ∨ k = 1 ∨ k = 2 ∨ k = 3 ∨ k = 4 by omega) with rfl | rfl | rfl | rfl | rfl <;> rfl⟩
theorem c_word_28 {M : mm} {v s : Nat} {w : List Int32} (hw : isW v w) (hw6 : w.length ≤ 6) (hc : CT M t tx) (h150 : t ≤ 150) (h5 : M.1 90 5 = nI s) (hs : s + w.length ≤ t) : ∀ (m k F : Nat), k + m = w.length → m < F → fX9_isWord_28 F 90 v (nI k) (lay M) = some (bI (al (wk tx s w) m k), lay M)
  | m, k, 0, _, hF => by omega
  | 0, k, F + 1, hk, _ => by
    show bX9_isWord_28 (fX9_isWord_28 F) 90 v (nI k) (lay M) = _
    unfold bX9_isWord_28
    rw [hw.1, gx_bd_some, if_pos (nI_le (by omega) (by omega))]
    rfl
  | m + 1, k, F + 1, hk, hF => by
    show bX9_isWord_28 (fX9_isWord_28 F) 90 v (nI k) (lay M) = _
    unfold bX9_isWord_28 al
    rw [hw.1, gx_bd_some, if_neg (nI_ge (by omega) (by omega)), i_90_5, Option.bind_some, h5, nI_add, c_byte hc h150 (by omega), gx_bd_some, hw.2 k (by omega), gx_bd_some, nI_1]
    by_cases c : tx (s + k) = w.getD k 0
    · rw [if_pos c, show wk tx s w k = true from decide_eq_true c, Bool.true_and]
      exact c_word_28 hw hw6 hc h150 h5 hs m (k + 1) F (by omega) (by omega)
    · rw [if_neg c, show wk tx s w k = false from decide_eq_false c, Bool.false_and]
      rfl
theorem c_isWord {M : mm} {v s : Nat} {w : List Int32} (hw : isW v w) (hw6 : w.length ≤ 6) (hw1 : 1 ≤ w.length) (hc : CT M t tx) (h150 : t ≤ 150) (hs : s ≤ t) (h4 : M.1 90 4 = kd t tx s) (h5 : M.1 90 5 = nI s) (h6 : M.1 90 6 = nI (en t tx s)) : fX9_isWord 90 v (lay M) = some (bI (wq t tx s w), lay M) := by
  have hL := run_ge (tx := tx) (lo := 97) (hi := 122) hs
  have hL1 : s ≤ le t tx s := hL.1
  have hL2 : le t tx s ≤ t := hL.2
  unfold fX9_isWord fX9_isWord_24 wq
  rw [o_90, Option.bind_some, i_90_4, Option.bind_some, h4]
  by_cases c : s < le t tx s
  · rw [if_pos ((kd_1 hs).mpr c), i_90_6, Option.bind_some, h6, en_1 hs c, i_90_5, Option.bind_some, h5, hw.1, gx_bd_some, pk_sub hL1]
    by_cases c2 : le t tx s - s = w.length
    · rw [c2, if_pos rfl, decide_eq_true rfl, Bool.true_and]
      exact c_word_28 hw hw6 hc h150 h5 (by omega) w.length 0 gx_N (by omega) (by unfold gx_N; omega)
    · rw [if_neg (ne_nI (by omega) (by omega) c2), decide_eq_false c2, Bool.false_and]
      rfl
  · rw [if_neg (fun z => c ((kd_1 hs).mp z)), decide_eq_false (by omega), Bool.false_and]
    rfl
/-! the reference's words -/
def ltr (tx : Nat → Int32) (s l k : Nat) (c : Int32) : Bool := if c = 0 then decide (l ≤ k) else (decide (k < l) && decide (tx (s + k) = c))
theorem r_isLetter {N : mm} {s l k : Nat} {c : Int32} (hr : RT N t tx) (h150 : t ≤ 150) (h8 : N.1 122 8 = nI s) (hsl : s + l ≤ t) (hk : k ≤ 5) : fX11_isLetter 122 (nI k) c (nI l) (lay N) = some (bI (ltr tx s l k c), lay N) := by
  unfold fX11_isLetter fX11_isLetter_41 fX11_isLetter_42 ltr
  rw [o_122, Option.bind_some]
  by_cases c0 : c = 0
  · rw [if_pos c0, if_pos c0]
    by_cases c1 : l ≤ k
    · rw [if_neg (show ¬ nI k < nI l from by rw [t_lt, nI_toInt (by omega), nI_toInt (by omega)]; omega), decide_eq_true c1]; rfl
    · rw [if_pos (nI_lt (by omega) (by omega)), decide_eq_false c1]; rfl
  · rw [if_neg c0, if_neg c0]
    by_cases c1 : k < l
    · rw [if_neg (nI_ge (by omega) (by omega)), r_122_2, Option.bind_some, i_122_8, Option.bind_some, h8, nI_add, aI_lay 150 (show isA 125 0 150 = true by decide) (by decide) (show s + k < 150 by omega) (by decide), Option.bind_some, hr.2 (s + k) (by omega), decide_eq_true c1, Bool.true_and]
      by_cases c2 : tx (s + k) = c
      · rw [if_pos c2, decide_eq_true c2]; rfl
      · rw [if_neg c2, decide_eq_false c2]; rfl
    · rw [if_pos (nI_le (by omega) (by omega)), decide_eq_false c1, Bool.false_and]; rfl
theorem and_if {b b' : Bool} {h : gx_H} {o : Option (Int32 × gx_H)} (e : o = some (bI b', h)) : (if bI b = 0 then gx_ret .boolean 0 h else o) = some (bI (b && b'), h) := by
  rw [e]
  cases b with
  | true => rw [if_neg (by decide), Bool.true_and]
  | false => rw [if_pos (show bI false = 0 from rfl), Bool.false_and]; rfl
theorem r_isWord {N : mm} {s l : Nat} {c0 c1 c2 c3 c4 c5 : Int32} (hr : RT N t tx) (h150 : t ≤ 150) (h8 : N.1 122 8 = nI s) (h7 : N.1 122 7 = nI (s + l)) (hsl : s + l ≤ t) : fX11_isWord 122 c0 c1 c2 c3 c4 c5 (lay N) = some (bI (ltr tx s l 0 c0 && (ltr tx s l 1 c1 && (ltr tx s l 2 c2 && (ltr tx s l 3 c3 && (ltr tx s l 4 c4 && (ltr tx s l 5 c5 && decide (l < 7))))))), lay N) := by
  have q : ∀ k c, k ≤ 5 → fX11_isLetter 122 (nI k) c (nI l) (lay N) = some (bI (ltr tx s l k c), lay N) := fun k c hk => r_isLetter hr h150 h8 hsl hk
  have q0 : fX11_isLetter 122 0 c0 (nI l) (lay N) = _ := q 0 c0 (by omega)
  have q1 : fX11_isLetter 122 1 c1 (nI l) (lay N) = _ := q 1 c1 (by omega)
  have q2 : fX11_isLetter 122 2 c2 (nI l) (lay N) = _ := q 2 c2 (by omega)
  have q3 : fX11_isLetter 122 3 c3 (nI l) (lay N) = _ := q 3 c3 (by omega)
  have q4 : fX11_isLetter 122 4 c4 (nI l) (lay N) = _ := q 4 c4 (by omega)
  have q5 : fX11_isLetter 122 5 c5 (nI l) (lay N) = _ := q 5 c5 (by omega)
  unfold fX11_isWord fX11_isWord_91 fX11_isWord_92
  rw [o_122, Option.bind_some, i_122_7, Option.bind_some, i_122_8, Option.bind_some, h7, h8, pk_sub (by omega), show s + l - s = l by omega, q0, gx_bd_some]
  refine and_if ?_
  rw [q1, gx_bd_some]
  refine and_if ?_
  rw [q2, gx_bd_some]
  refine and_if ?_
  rw [q3, gx_bd_some]
  refine and_if ?_
  rw [q4, gx_bd_some]
  refine and_if ?_
  rw [q5, gx_bd_some]
  refine and_if ?_
  by_cases c : l < 7
  · rw [if_neg (show ¬ (7 : Int32) ≤ nI l from nI_ge (b := 7) c (by omega)), decide_eq_true c]; rfl
  · rw [if_pos (show (7 : Int32) ≤ nI l from nI_le (a := 7) (by omega) (by omega)), decide_eq_false c]; rfl
theorem ltr_0 {s l k : Nat} : ltr tx s l k 0 = decide (l ≤ k) := if_pos rfl
theorem ltr_n {s l k : Nat} {c : Int32} (h : ¬ c = 0) : ltr tx s l k c = (decide (k < l) && decide (tx (s + k) = c)) := if_neg h
theorem bo5 {l : Nat} (T0 T1 T2 T3 T4 : Bool) : ((decide (0 < l) && T0) && ((decide (1 < l) && T1) && ((decide (2 < l) && T2) && ((decide (3 < l) && T3) && ((decide (4 < l) && T4) && (decide (l ≤ 5) && decide (l < 7))))))) = (decide (l = 5) && (T0 && (T1 && (T2 && (T3 && (T4 && true)))))) := by
  by_cases c : l = 5
  · subst c
    revert T0 T1 T2 T3 T4
    decide
  · rw [decide_eq_false c, Bool.false_and]
    by_cases c2 : l < 5
    · rw [decide_eq_false (show ¬ 4 < l by omega)]; simp
    · rw [decide_eq_false (show ¬ l ≤ 5 by omega)]; simp
theorem bo4 {l : Nat} (T0 T1 T2 T3 : Bool) : ((decide (0 < l) && T0) && ((decide (1 < l) && T1) && ((decide (2 < l) && T2) && ((decide (3 < l) && T3) && (decide (l ≤ 4) && (decide (l ≤ 5) && decide (l < 7))))))) = (decide (l = 4) && (T0 && (T1 && (T2 && (T3 && true))))) := by
  by_cases c : l = 4
  · subst c
    revert T0 T1 T2 T3
    decide
  · rw [decide_eq_false c, Bool.false_and]
    by_cases c2 : l < 4
    · rw [decide_eq_false (show ¬ 3 < l by omega)]; simp
    · rw [decide_eq_false (show ¬ l ≤ 4 by omega)]; simp
theorem bo6 {l : Nat} (T0 T1 T2 T3 T4 T5 : Bool) : ((decide (0 < l) && T0) && ((decide (1 < l) && T1) && ((decide (2 < l) && T2) && ((decide (3 < l) && T3) && ((decide (4 < l) && T4) && ((decide (5 < l) && T5) && decide (l < 7))))))) = (decide (l = 6) && (T0 && (T1 && (T2 && (T3 && (T4 && (T5 && true))))))) := by
  by_cases c : l = 6
  · subst c
    revert T0 T1 T2 T3 T4 T5
    decide
  · rw [decide_eq_false c, Bool.false_and]
    by_cases c2 : l < 6
    · rw [decide_eq_false (show ¬ 5 < l by omega)]; simp
    · rw [decide_eq_false (show ¬ l < 7 by omega)]; simp
theorem bo3 {l : Nat} (T0 T1 T2 : Bool) : ((decide (0 < l) && T0) && ((decide (1 < l) && T1) && ((decide (2 < l) && T2) && (decide (l ≤ 3) && (decide (l ≤ 4) && (decide (l ≤ 5) && decide (l < 7))))))) = (decide (l = 3) && (T0 && (T1 && (T2 && true)))) := by
  by_cases c : l = 3
  · subst c
    revert T0 T1 T2
    decide
  · rw [decide_eq_false c, Bool.false_and]
    by_cases c2 : l < 3
    · rw [decide_eq_false (show ¬ 2 < l by omega)]; simp
    · rw [decide_eq_false (show ¬ l ≤ 3 by omega)]; simp
def wc (t : Nat) (tx : Nat → Int32) (s : Nat) : Int32 := if wq t tx s wB = true then 1 else if wq t tx s wL = true then 2 else if wq t tx s wP = true then 3 else if wq t tx s wS = true then 4 else if wq t tx s wT = true then 5 else 0
theorem r_wordOf {N : mm} {s : Nat} (hr : RT N t tx) (h150 : t ≤ 150) (hs : s ≤ t) (h8 : N.1 122 8 = nI s) (h7 : N.1 122 7 = nI (le t tx s)) : fX11_wordOf 122 (lay N) = some (wc t tx s, lay N) := by
  have hL := run_ge (tx := tx) (lo := 97) (hi := 122) hs
  have hL1 : s ≤ le t tx s := hL.1
  have hL2 : le t tx s ≤ t := hL.2
  obtain ⟨l, hl⟩ : ∃ l, le t tx s = s + l := ⟨le t tx s - s, by omega⟩
  rw [hl] at h7 hL2
  have hl2 : le t tx s - s = l := by omega
  have eB : fX11_isWord 122 98 111 97 114 100 0 (lay N) = some (bI (wq t tx s wB), lay N) := by
    rw [r_isWord hr h150 h8 h7 hL2, ltr_n (by decide), ltr_n (by decide), ltr_n (by decide), ltr_n (by decide), ltr_n (by decide), ltr_0, bo5]
    unfold wq
    rw [hl2]
    rfl
  have eL : fX11_isWord 122 108 105 110 107 0 0 (lay N) = some (bI (wq t tx s wL), lay N) := by
    rw [r_isWord hr h150 h8 h7 hL2, ltr_n (by decide), ltr_n (by decide), ltr_n (by decide), ltr_n (by decide), ltr_0, ltr_0, bo4]
    unfold wq
    rw [hl2]
    rfl
  have eP : fX11_isWord 122 112 108 97 121 101 114 (lay N) = some (bI (wq t tx s wP), lay N) := by
    rw [r_isWord hr h150 h8 h7 hL2, ltr_n (by decide), ltr_n (by decide), ltr_n (by decide), ltr_n (by decide), ltr_n (by decide), ltr_n (by decide), bo6]
    unfold wq
    rw [hl2]
    rfl
  have eS : fX11_isWord 122 115 101 116 0 0 0 (lay N) = some (bI (wq t tx s wS), lay N) := by
    rw [r_isWord hr h150 h8 h7 hL2, ltr_n (by decide), ltr_n (by decide), ltr_n (by decide), ltr_0, ltr_0, ltr_0, bo3]
    unfold wq
    rw [hl2]
    rfl
  have eT : fX11_isWord 122 116 104 114 111 119 0 (lay N) = some (bI (wq t tx s wT), lay N) := by
    rw [r_isWord hr h150 h8 h7 hL2, ltr_n (by decide), ltr_n (by decide), ltr_n (by decide), ltr_n (by decide), ltr_n (by decide), ltr_0, bo5]
    unfold wq
    rw [hl2]
    rfl
  unfold fX11_wordOf fX11_wordOf_109 wc
  rw [o_122, Option.bind_some, eB, gx_bd_some]
  by_cases z1 : wq t tx s wB = true
  · rw [if_neg (fun y => bI_0.mp y z1), if_pos z1]
  rw [if_pos (bI_0.mpr z1), if_neg z1, eL, gx_bd_some]
  by_cases z2 : wq t tx s wL = true
  · rw [if_neg (fun y => bI_0.mp y z2), if_pos z2]
  rw [if_pos (bI_0.mpr z2), if_neg z2, eP, gx_bd_some]
  by_cases z3 : wq t tx s wP = true
  · rw [if_neg (fun y => bI_0.mp y z3), if_pos z3]
  rw [if_pos (bI_0.mpr z3), if_neg z3, eS, gx_bd_some]
  by_cases z4 : wq t tx s wS = true
  · rw [if_neg (fun y => bI_0.mp y z4), if_pos z4]
  rw [if_pos (bI_0.mpr z4), if_neg z4, eT, gx_bd_some]
  by_cases z5 : wq t tx s wT = true
  · rw [if_neg (fun y => bI_0.mp y z5), if_pos z5]
  rw [if_pos (bI_0.mpr z5), if_neg z5]
theorem wq_c {s : Nat} {w : List Int32} (hw : 1 ≤ w.length) (h : wq t tx s w = true) : tx s = w.getD 0 0 ∧ s < le t tx s := by
  unfold wq at h
  rw [Bool.and_eq_true] at h
  have h1 := of_decide_eq_true h.1
  obtain ⟨m, hm⟩ : ∃ m, w.length = m + 1 := ⟨w.length - 1, by omega⟩
  have h2 := h.2
  rw [hm] at h2
  unfold al at h2
  rw [Bool.and_eq_true] at h2
  exact ⟨of_decide_eq_true h2.1, by omega⟩
/-- one who begins with b is none of the others -/
theorem wq_B {s : Nat} {w : List Int32} (hw : 1 ≤ w.length) (h0 : ¬ w.getD 0 0 = 98) (h : wq t tx s wB = true) : ¬ wq t tx s w = true := fun z => h0 ((wq_c hw z).1.symm.trans (wq_c (by decide) h).1)
end WRD
