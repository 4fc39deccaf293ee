/-! what a stretch leaves as it was -/
def fr (S : Nat → Prop) (M M' : mm) : Prop := M'.2 = M.2 ∧ ∀ a, ¬ S a → M'.1 a = M.1 a
theorem fr.rf {S : Nat → Prop} {M : mm} : fr S M M := ⟨rfl, fun _ _ => rfl⟩
theorem fr.put {S : Nat → Prop} {M M' : mm} {a j : Nat} {x : Int32} (h : fr S M M') (ha : S a) : fr S M (sI M' a j x) := ⟨h.1, fun c hc => (up2_c M'.1 x (fun q => hc (by rw [q]; exact ha))).trans (h.2 c hc)⟩
theorem fr.tr {S : Nat → Prop} {M M' M'' : mm} (h : fr S M M') (h2 : fr S M' M'') : fr S M M'' := ⟨h2.1.trans h.1, fun c hc => (h2.2 c hc).trans (h.2 c hc)⟩
theorem fr.mono {S T : Nat → Prop} {M M' : mm} (h : fr S M M') (hs : ∀ a, S a → T a) : fr T M M' := ⟨h.1, fun c hc => h.2 c (fun q => hc (hs c q))⟩
theorem fr.V {S : Nat → Prop} {M M' : mm} {b : Nat} (h : fr S M M') (hs : ∀ a, b ≤ a → a < b + 8 → ¬ S a) : VC M'.1 b = VC M.1 b := VC_eq (fun a h1 h2 => h.2 a (hs a h1 h2))
theorem upd_s (f : Nat → Int32) (k : Nat) (x : Int32) : upd f k x k = x := if_pos rfl
theorem upd_n (f : Nat → Int32) {k j : Nat} (x : Int32) (h : j ≠ k) : upd f k x j = f j := if_neg h
theorem upd_upd (f : Nat → Int32) (k : Nat) (x y : Int32) : upd (upd f k x) k y = upd f k y := by
  funext j
  by_cases e : j = k
  · subst e; rw [upd_s, upd_s]
  · rw [upd_n _ _ e, upd_n _ _ e, upd_n _ _ e]
theorem upd_comm (f : Nat → Int32) {k l : Nat} (x y : Int32) (h : k ≠ l) : upd (upd f k x) l y = upd (upd f l y) k x := by
  funext j
  by_cases e : j = k
  · subst e; rw [upd_n _ _ h, upd_s, upd_s]
  · by_cases e2 : j = l
    · subst e2; rw [upd_s, upd_n _ _ e, upd_s]
    · rw [upd_n _ _ e2, upd_n _ _ e, upd_n _ _ e, upd_n _ _ e2]
theorem upd_self (f : Nat → Int32) {k : Nat} {x : Int32} (h : f k = x) : upd f k x = f := by
  funext j
  by_cases e : j = k
  · subst e; rw [upd_s, h]
  · rw [upd_n _ _ e]
/-! a throw, as a row's change -/
def tU (u : Int32) : Int32 := if 99 ≤ u then u else u + 1
def tT (t : Int32) : Int32 := t + (if 9999 ≤ t then 0 else 1)
def goV (V : Nat → Int32) (i : Nat) (r : Int32) : Int32 := gB (V (28 + i)) (V 0) (V (32 + i)) r
def metV (V : Nat → Int32) (n i : Nat) (r : Int32) : Option Nat := if goV V i r = V (32 + i) then none else lkG (fun k => V (10 + k)) (goV V i r) n 0
def ldV (V : Nat → Int32) (i k : Nat) (r : Int32) : Int32 := lB (V (4 + k)) (V 0) (goV V i r) (V (16 + k)) (V (22 + k)) r
def sqV (V : Nat → Int32) (n i : Nat) (r : Int32) : Int32 := match metV V n i r with
  | none => goV V i r
  | some k => ldV V i k r
def thr (V : Nat → Int32) (n i : Nat) (r : Int32) : Nat → Int32 := match metV V n i r with
  | none => upd (upd V (32 + i) (goV V i r)) (36 + i) (tT (V (36 + i)))
  | some k => upd (upd (upd V (22 + k) (tU (V (22 + k)))) (32 + i) (ldV V i k r)) (36 + i) (tT (V (36 + i)))
def tb (V : Nat → Int32) (pl : Nat) (sq th : Int32) (lk : Option Nat) (us : Int32) : Nat → Int32 := match lk with
  | none => upd (upd V (32 + pl) sq) (36 + pl) th
  | some k => upd (upd (upd V (32 + pl) sq) (36 + pl) th) (22 + k) us
/-- the rows within their bounds -/
def okV (V : Nat → Int32) (n np : Nat) : Prop := V 2 = nI n ∧ n ≤ 6 ∧ V 3 = nI np ∧ np ≤ 4 ∧ bn (V 0) 10 40 ∧ bn (V 1) 2 6 ∧ (∀ k, k < n → bn (V (16 + k)) 0 (V 0).toInt ∧ bn (V (22 + k)) 0 99) ∧ ∀ i, i < np → bn (V (32 + i)) 0 (V 0).toInt ∧ bn (V (36 + i)) 0 9999
theorem metV_lt {V : Nat → Int32} {n i : Nat} {r : Int32} {k : Nat} (h : metV V n i r = some k) : k < n ∧ V (10 + k) = goV V i r := by
  unfold metV at h
  split at h
  · cases h
  · obtain ⟨h1, h2, h3⟩ := lkG_some h
    exact ⟨by omega, h3⟩
theorem thr_tb {V : Nat → Int32} {n i : Nat} {r us : Int32} (hi : i < 4) (hn : n ≤ 6) (hu : ∀ k, metV V n i r = some k → us = V (22 + k)) : tb (thr V n i r) i (V (32 + i)) (V (36 + i)) (metV V n i r) us = V := by
  unfold tb thr
  cases hm : metV V n i r with
  | none =>
    dsimp only
    funext j
    by_cases e1 : j = 36 + i
    · subst e1; rw [upd_s]
    · rw [upd_n _ _ e1]
      by_cases e2 : j = 32 + i
      · subst e2; rw [upd_s]
      · rw [upd_n _ _ e2, upd_n _ _ e1, upd_n _ _ e2]
  | some k =>
    have hk := (metV_lt hm).1
    dsimp only
    rw [hu k hm]
    funext j
    by_cases e0 : j = 22 + k
    · subst e0; rw [upd_s]
    · rw [upd_n _ _ e0]
      by_cases e1 : j = 36 + i
      · subst e1; rw [upd_s]
      · rw [upd_n _ _ e1]
        by_cases e2 : j = 32 + i
        · subst e2; rw [upd_s]
        · rw [upd_n _ _ e2, upd_n _ _ e1, upd_n _ _ e2, upd_n _ _ e0]
/-! bounds -/
theorem pB_bn {l p r : Int32} (hl : bn l 10 40) (hp : bn p 0 l.toInt) (hr : bn r 0 6) : bn (pB l p r) 0 l.toInt := by
  obtain ⟨l1, l2⟩ := hl
  obtain ⟨p1, p2⟩ := hp
  obtain ⟨r1, r2⟩ := hr
  have e : (p + r).toInt = p.toInt + r.toInt := t_add (by omega) (by omega)
  unfold pB
  split
  · rename_i c
    rw [t_le, e] at c
    exact ⟨by rw [e]; omega, by rw [e]; omega⟩
  · exact ⟨p1, p2⟩
theorem i2 : (2 : Int32).toInt = 2 := by decide
theorem gB_bn {kd l p : Int32} {r : Nat} (hl : bn l 10 40) (hp : bn p 0 l.toInt) (h1 : 1 ≤ r) (h6 : r ≤ 6) : bn (gB kd l p (nI r)) 0 l.toInt := by
  have hr : bn (nI r) 0 6 := nI_bn (by omega) (by omega) (by omega)
  have er : (nI r).toInt = (r : Int) := nI_toInt (by omega)
  unfold gB
  split
  · split
    · rename_i c
      have := pB_bn hl hp hr
      unfold pB at this
      rw [if_pos c] at this
      exact this
    · rename_i c
      obtain ⟨l1, l2⟩ := hl
      obtain ⟨p1, p2⟩ := hp
      have e0 : (p + nI r).toInt = p.toInt + r := by rw [t_add (by rw [er]; omega) (by rw [er]; omega), er]
      have e1 : (2 * l).toInt = 2 * l.toInt := by rw [t_mul (by rw [i2]; omega) (by rw [i2]; omega), i2]
      have e2 : (2 * l - p).toInt = 2 * l.toInt - p.toInt := by rw [t_sub (by rw [e1]; omega) (by rw [e1]; omega), e1]
      have e3 : (2 * l - p - nI r).toInt = 2 * l.toInt - p.toInt - r := by rw [t_sub (by rw [e2, er]; omega) (by rw [e2, er]; omega), e2, er]
      rw [t_le, e0] at c
      exact ⟨by rw [e3]; omega, by rw [e3]; omega⟩
  · split
    · refine pB_bn hl hp ?_
      split
      · unfold bn; decide
      · exact hr
    · split
      · refine pB_bn hl hp ?_
        split
        · unfold bn; decide
        · exact hr
      · split
        · split
          · refine pB_bn hl hp ?_
            split
            · unfold bn; decide
            · exact hr
          · exact ⟨by have := hl.1; omega, Int.le_refl _⟩
        · split
          · refine pB_bn hl hp ?_
            have e : hB (nI r) = nI ((r + 1) / 2) := by
              unfold hB
              rw [nI_1, show (2 : Int32) = nI 2 from rfl, pk_div (by omega) (by omega) (by omega)]
            split
            · unfold bn; decide
            · rw [e]; exact nI_bn (by omega) (by omega) (by omega)
          · exact pB_bn hl hp hr
theorem lB_bn {kd l a b u : Int32} {r : Nat} (hl : bn l 10 40) (ha : bn a 0 l.toInt) (hb : bn b 0 l.toInt) (h1 : 1 ≤ r) (h6 : r ≤ 6) : bn (lB kd l a b u (nI r)) 0 l.toInt := by
  have er : (nI r).toInt = (r : Int) := nI_toInt (by omega)
  have e3 := r3 h1 h6
  have hb' := hb
  have hl' := hl
  obtain ⟨b1, b2⟩ := hb
  obtain ⟨l1, l2⟩ := hl
  have e1 : (b - 1).toInt = b.toInt - 1 := by rw [t_sub (by rw [i1]; omega) (by rw [i1]; omega), i1]
  have eg : (grB b).toInt = if b.toInt = 0 then 0 else b.toInt - 1 := by
    unfold grB
    by_cases c : b = 0
    · rw [if_pos c, if_pos (by rw [c, i0]), i0]
    · rw [if_neg c, if_neg (fun q => c (t_inj (by rw [q, i0]))), e1]
  have e6 : (grB b - nI r / 3).toInt = (if b.toInt = 0 then 0 else b.toInt - 1) - ((r / 3 : Nat) : Int) := by
    rw [t_sub (by rw [eg, e3]; split <;> omega) (by rw [eg, e3]; split <;> omega), eg, e3]
  have e7 : (b + nI r).toInt = b.toInt + r := by rw [t_add (by rw [er]; omega) (by rw [er]; omega), er]
  unfold lB
  split
  · split
    · exact ha
    · exact hb'
  · split
    · unfold bn; rw [eg]; split <;> omega
    · split
      · split
        · exact hb'
        · exact ha
      · split
        · split
          · rename_i c
            rw [t_le, e7] at c
            unfold bn; rw [e7]; omega
          · exact ⟨by omega, Int.le_refl _⟩
        · split
          · split
            · rename_i c
              rw [t_le, e6, i0] at c
              unfold bn; rw [e6]
              split <;> rename_i c2 <;> simp only [c2, if_true, if_false] at c <;> omega
            · unfold bn; rw [i0]; omega
          · exact hb'
theorem tU_bn {u : Int32} (h : bn u 0 99) : bn (tU u) 0 99 := by
  obtain ⟨h1, h2⟩ := h
  have i99 : (99 : Int32).toInt = 99 := by decide
  unfold tU
  split
  · exact ⟨h1, h2⟩
  · rename_i c
    rw [t_le, i99] at c
    have e : (u + 1).toInt = u.toInt + 1 := by rw [t_add (by rw [i1]; omega) (by rw [i1]; omega), i1]
    exact ⟨by rw [e]; omega, by rw [e]; omega⟩
theorem tT_bn {t : Int32} (h : bn t 0 9999) : bn (tT t) 0 9999 := by
  obtain ⟨h1, h2⟩ := h
  have ic : (9999 : Int32).toInt = 9999 := by decide
  unfold tT
  split
  · rw [show t + 0 = t from by apply t_inj; rw [t_add (by rw [i0]; omega) (by rw [i0]; omega), i0]; omega]
    exact ⟨h1, h2⟩
  · rename_i c
    rw [t_le, ic] at c
    have e : (t + 1).toInt = t.toInt + 1 := by rw [t_add (by rw [i1]; omega) (by rw [i1]; omega), i1]
    exact ⟨by rw [e]; omega, by rw [e]; omega⟩
/-- the class's forms of one more use, one more throw -/
theorem tU_min {u : Int32} (h : bn u 0 99) : (if u + 1 < 99 then u + 1 else 99) = tU u := by
  obtain ⟨h1, h2⟩ := h
  have ic : (99 : Int32).toInt = 99 := by decide
  have e : (u + 1).toInt = u.toInt + 1 := by rw [t_add (by rw [i1]; omega) (by rw [i1]; omega), i1]
  unfold tU
  apply t_inj
  by_cases c : u + 1 < 99
  · rw [if_pos c]
    rw [t_lt, e, ic] at c
    rw [if_neg (by rw [t_le, ic]; omega)]
  · rw [if_neg c]
    rw [t_lt, e, ic] at c
    by_cases c2 : 99 ≤ u
    · rw [if_pos c2]
      rw [t_le, ic] at c2
      omega
    · rw [if_neg c2, e]
      rw [t_le, ic] at c2
      omega
theorem tT_min {u : Int32} (h : bn u 0 9999) : (if u + 1 < 9999 then u + 1 else 9999) = tT u := by
  obtain ⟨h1, h2⟩ := h
  have ic : (9999 : Int32).toInt = 9999 := by decide
  have e : (u + 1).toInt = u.toInt + 1 := by rw [t_add (by rw [i1]; omega) (by rw [i1]; omega), i1]
  have e0 : (u + 0).toInt = u.toInt := by rw [t_add (by rw [i0]; omega) (by rw [i0]; omega), i0]; omega
  unfold tT
  apply t_inj
  by_cases c : u + 1 < 9999
  · rw [if_pos c]
    rw [t_lt, e, ic] at c
    rw [if_neg (by rw [t_le, ic]; omega)]
  · rw [if_neg c]
    rw [t_lt, e, ic] at c
    by_cases c2 : 9999 ≤ u
    · rw [if_pos c2, e0]
      rw [t_le, ic] at c2
      omega
    · rw [if_neg c2, e]
      rw [t_le, ic] at c2
      omega
theorem okV_go {V : Nat → Int32} {n np i r : Nat} (h : okV V n np) (hi : i < np) (h1 : 1 ≤ r) (h6 : r ≤ 6) : bn (goV V i (nI r)) 0 (V 0).toInt := gB_bn h.2.2.2.2.1 (h.2.2.2.2.2.2.2 i hi).1 h1 h6
theorem okV_sq {V : Nat → Int32} {n np i r : Nat} (h : okV V n np) (hi : i < np) (h1 : 1 ≤ r) (h6 : r ≤ 6) : bn (sqV V n i (nI r)) 0 (V 0).toInt := by
  unfold sqV
  cases hm : metV V n i (nI r) with
  | none => exact okV_go h hi h1 h6
  | some k => exact lB_bn h.2.2.2.2.1 (okV_go h hi h1 h6) (h.2.2.2.2.2.2.1 k (metV_lt hm).1).1 h1 h6
theorem thr_at {V : Nat → Int32} {n i : Nat} {r : Int32} (hi : i < 4) (hn : n ≤ 6) : thr V n i r (32 + i) = sqV V n i r := by
  unfold thr sqV
  cases hm : metV V n i r with
  | none => dsimp only; rw [upd_n _ _ (by omega), upd_s]
  | some k => dsimp only; rw [upd_n _ _ (by omega), upd_s]
theorem thr_th {V : Nat → Int32} {n i : Nat} {r : Int32} : thr V n i r (36 + i) = tT (V (36 + i)) := by
  unfold thr
  cases hm : metV V n i r with
  | none => dsimp only; rw [upd_s]
  | some k => dsimp only; rw [upd_s]
/-- what a throw doesn't touch -/
theorem thr_o {V : Nat → Int32} {n i j : Nat} {r : Int32} (h1 : j ≠ 32 + i) (h2 : j ≠ 36 + i) (h3 : ∀ k, metV V n i r = some k → j ≠ 22 + k) : thr V n i r j = V j := by
  unfold thr
  cases hm : metV V n i r with
  | none => dsimp only; rw [upd_n _ _ h2, upd_n _ _ h1]
  | some k => dsimp only; rw [upd_n _ _ h2, upd_n _ _ h1, upd_n _ _ (h3 k hm)]
theorem thr_us {V : Nat → Int32} {n i k : Nat} {r : Int32} (hk : k < 6) : thr V n i r (22 + k) = if metV V n i r = some k then tU (V (22 + k)) else V (22 + k) := by
  unfold thr
  cases hm : metV V n i r with
  | none => dsimp only; rw [upd_n _ _ (by omega), upd_n _ _ (by omega), if_neg (by simp)]
  | some k' =>
    dsimp only
    rw [upd_n _ _ (by omega), upd_n _ _ (by omega)]
    by_cases e : k = k'
    · subst e; rw [upd_s, if_pos rfl]
    · rw [upd_n _ _ (by omega), if_neg (fun q => e (Option.some.inj q).symm)]
theorem okV_thr {V : Nat → Int32} {n np i r : Nat} (h : okV V n np) (hi : i < np) (h1 : 1 ≤ r) (h6 : r ≤ 6) : okV (thr V n i (nI r)) n np := by
  have hsq := okV_sq h hi h1 h6
  obtain ⟨a1, a2, a3, a4, a5, a6, a7, a8⟩ := h
  have o : ∀ j, j < 22 → thr V n i (nI r) j = V j := fun j hj => thr_o (by omega) (by omega) (fun k _ => by omega)
  refine ⟨by rw [o 2 (by omega)]; exact a1, a2, by rw [o 3 (by omega)]; exact a3, a4, by rw [o 0 (by omega)]; exact a5, by rw [o 1 (by omega)]; exact a6, fun k hk => ?_, fun q hq => ?_⟩
  · rw [o 0 (by omega), o (16 + k) (by omega), thr_us (by omega)]
    refine ⟨(a7 k hk).1, ?_⟩
    split
    · exact tU_bn (a7 k hk).2
    · exact (a7 k hk).2
  · rw [o 0 (by omega)]
    by_cases e : q = i
    · subst e
      rw [thr_at (by omega) a2, thr_th]
      exact ⟨hsq, tT_bn (a8 q hq).2⟩
    · rw [thr_o (by omega) (by omega) (fun k hk => by have := (metV_lt hk).1; omega), thr_o (by omega) (by omega) (fun k hk => by have := (metV_lt hk).1; omega)]
      exact a8 q hq
