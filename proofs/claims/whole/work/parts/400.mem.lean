/-! the memory: cells in the order in which they are made, their shapes; what they hold: ints (and flags, bytes) by cell and place, longs, references in arrays -/
abbrev mm : Type := (Nat → Nat → Int32) × (Nat → Nat → Int64) × (Nat → Nat → Option Nat)
def shp : List ((Nat × Nat) ⊕ (Nat × List (Option (Option Nat)))) := [
  .inr (8, [some (some 1), some (some 30), some (some 89), some (some 90), some (some 101), some (some 120), some none, some none, none, none, none]),
  .inr (1, [some (some 2), some (some 10), some (some 20), some (some 25)]),
  .inr (0, [none, none, none, none, some (some 3), some (some 4), some (some 5), some (some 6), some (some 7), some (some 8), some (some 9)]),
  .inl (0, 6),
  .inl (0, 6),
  .inl (0, 6),
  .inl (0, 6),
  .inl (0, 4),
  .inl (0, 4),
  .inl (0, 4),
  .inr (3, [none, some (some 11)]),
  .inl (3, 8),
  .inr (6, [none, none, none, none, none]),
  .inr (6, [none, none, none, none, none]),
  .inr (6, [none, none, none, none, none]),
  .inr (6, [none, none, none, none, none]),
  .inr (6, [none, none, none, none, none]),
  .inr (6, [none, none, none, none, none]),
  .inr (6, [none, none, none, none, none]),
  .inr (6, [none, none, none, none, none]),
  .inr (5, [none, some (some 21), some (some 22), some (some 23), some (some 24)]),
  .inl (0, 6),
  .inl (0, 6),
  .inl (0, 6),
  .inl (0, 6),
  .inr (5, [none, some (some 26), some (some 27), some (some 28), some (some 29)]),
  .inl (0, 6),
  .inl (0, 6),
  .inl (0, 6),
  .inl (0, 6),
  .inl (4, 2),
  .inr (1, [some (some 32), some (some 40), some (some 50), some (some 55)]),
  .inr (0, [none, none, none, none, some (some 33), some (some 34), some (some 35), some (some 36), some (some 37), some (some 38), some (some 39)]),
  .inl (0, 6),
  .inl (0, 6),
  .inl (0, 6),
  .inl (0, 6),
  .inl (0, 4),
  .inl (0, 4),
  .inl (0, 4),
  .inr (3, [none, some (some 41)]),
  .inl (3, 8),
  .inr (6, [none, none, none, none, none]),
  .inr (6, [none, none, none, none, none]),
  .inr (6, [none, none, none, none, none]),
  .inr (6, [none, none, none, none, none]),
  .inr (6, [none, none, none, none, none]),
  .inr (6, [none, none, none, none, none]),
  .inr (6, [none, none, none, none, none]),
  .inr (6, [none, none, none, none, none]),
  .inr (5, [none, some (some 51), some (some 52), some (some 53), some (some 54)]),
  .inl (0, 6),
  .inl (0, 6),
  .inl (0, 6),
  .inl (0, 6),
  .inr (5, [none, some (some 56), some (some 57), some (some 58), some (some 59)]),
  .inl (0, 6),
  .inl (0, 6),
  .inl (0, 6),
  .inl (0, 6),
  .inr (1, [some (some 61), some (some 69), some (some 79), some (some 84)]),
  .inr (0, [none, none, none, none, some (some 62), some (some 63), some (some 64), some (some 65), some (some 66), some (some 67), some (some 68)]),
  .inl (0, 6),
  .inl (0, 6),
  .inl (0, 6),
  .inl (0, 6),
  .inl (0, 4),
  .inl (0, 4),
  .inl (0, 4),
  .inr (3, [none, some (some 70)]),
  .inl (3, 8),
  .inr (6, [none, none, none, none, none]),
  .inr (6, [none, none, none, none, none]),
  .inr (6, [none, none, none, none, none]),
  .inr (6, [none, none, none, none, none]),
  .inr (6, [none, none, none, none, none]),
  .inr (6, [none, none, none, none, none]),
  .inr (6, [none, none, none, none, none]),
  .inr (6, [none, none, none, none, none]),
  .inr (5, [none, some (some 80), some (some 81), some (some 82), some (some 83)]),
  .inl (0, 6),
  .inl (0, 6),
  .inl (0, 6),
  .inl (0, 6),
  .inr (5, [none, some (some 85), some (some 86), some (some 87), some (some 88)]),
  .inl (0, 6),
  .inl (0, 6),
  .inl (0, 6),
  .inl (0, 6),
  .inl (2, 2),
  .inr (7, [none, some (some 91), some (some 99), some (some 100), none, none, none, none]),
  .inr (0, [none, none, none, none, some (some 92), some (some 93), some (some 94), some (some 95), some (some 96), some (some 97), some (some 98)]),
  .inl (0, 6),
  .inl (0, 6),
  .inl (0, 6),
  .inl (0, 6),
  .inl (0, 4),
  .inl (0, 4),
  .inl (0, 4),
  .inl (1, 150),
  .inr (6, [none, none, none, none, none]),
  .inr (4, [some (some 102), some (some 110), some (some 116), some (some 117), some (some 118), some (some 119), none, none]),
  .inr (0, [none, none, none, none, some (some 103), some (some 104), some (some 105), some (some 106), some (some 107), some (some 108), some (some 109)]),
  .inl (0, 6),
  .inl (0, 6),
  .inl (0, 6),
  .inl (0, 6),
  .inl (0, 4),
  .inl (0, 4),
  .inl (0, 4),
  .inl (3, 5),
  .inr (6, [none, none, none, none, none]),
  .inr (6, [none, none, none, none, none]),
  .inr (6, [none, none, none, none, none]),
  .inr (6, [none, none, none, none, none]),
  .inr (6, [none, none, none, none, none]),
  .inl (0, 41),
  .inl (0, 5),
  .inl (0, 36),
  .inl (0, 36),
  .inr (2, [some (some 121)]),
  .inl (0, 6),
  .inr (9, [some (some 123), some (some 124), some (some 125), none, some none, some none, some (some 126), none, none, none, some (some 127), some (some 128), some (some 129), some none]),
  .inl (0, 852),
  .inl (2, 2),
  .inl (0, 150),
  .inl (0, 3),
  .inl (2, 41),
  .inl (0, 49),
  .inl (0, 49)]
def up2 {α : Type} (C : Nat → Nat → α) (a j : Nat) (x : α) : Nat → Nat → α := fun k l => if k = a ∧ l = j then x else C k l
def sI (M : mm) (a j : Nat) (x : Int32) : mm := (up2 M.1 a j x, M.2)
def sJ (M : mm) (a j : Nat) (x : Int64) : mm := (M.1, up2 M.2.1 a j x, M.2.2)
def sP (M : mm) (a j : Nat) (x : Option Nat) : mm := (M.1, M.2.1, up2 M.2.2 a j x)
def kdv (M : mm) (k j : Nat) : Option (Option Nat) → Value
  | none => .int (M.1 k j)
  | some none => .long (M.2.1 k j)
  | some (some r) => .ref r
def cel (M : mm) (k : Nat) : gx_C := match shp[k]? with
  | none => gx_junk
  | some (.inl q) => .inl (q.1, q.2, if q.1 ≤ 2 then .inl (M.1 k) else .inr (.inr (.inr (.inr (M.2.2 k)))))
  | some (.inr q) => .inr (q.1, q.2.mapIdx (kdv M k))
def lay (M : mm) : gx_H := (130, cel M)
def isC (a ci : Nat) : Bool := match shp[a]? with
  | some (.inr q) => q.1 == ci
  | _ => false
def isA (a t n : Nat) : Bool := match shp[a]? with
  | some (.inl q) => q.1 == t && q.2 == n
  | _ => false
def kdo (a ci j : Nat) : Option (Option (Option Nat)) := match shp[a]? with
  | some (.inr q) => if q.1 = ci then q.2[j]? else none
  | _ => none
theorem up2_s {α : Type} (C : Nat → Nat → α) (a j : Nat) (x : α) : up2 C a j x a j = x := by simp [up2]
theorem up2_n {α : Type} (C : Nat → Nat → α) {a j k l : Nat} (x : α) (h : ¬ (k = a ∧ l = j)) : up2 C a j x k l = C k l := by simp only [up2]; rw [if_neg h]
theorem up2_c {α : Type} (C : Nat → Nat → α) {a j k : Nat} (x : α) (h : k ≠ a) : up2 C a j x k = C k := by
  funext l
  exact up2_n C x (fun q => h q.1)
theorem isC_lt {a ci : Nat} (h : isC a ci = true) : a < 130 := by
  unfold isC at h
  split at h
  · rename_i q hq
    exact (List.getElem?_eq_some_iff.mp hq).1
  · cases h
theorem cel_A {M : mm} {a t n : Nat} (h : isA a t n = true) : cel M a = .inl (t, n, if t ≤ 2 then .inl (M.1 a) else .inr (.inr (.inr (.inr (M.2.2 a))))) := by
  unfold isA at h
  unfold cel
  split at h
  · rename_i q hq
    simp only [Bool.and_eq_true, beq_iff_eq] at h
    obtain ⟨h1, h2⟩ := h
    subst h1
    subst h2
    rw [hq]
  · cases h
theorem cel_C {M : mm} {a ci : Nat} (h : isC a ci = true) : ∃ ks, shp[a]? = some (.inr (ci, ks)) ∧ cel M a = .inr (ci, ks.mapIdx (kdv M a)) := by
  unfold isC at h
  split at h
  · rename_i q hq
    simp only [beq_iff_eq] at h
    refine ⟨q.2, ?_, ?_⟩
    · rw [hq, ← h]
    · subst h
      unfold cel
      rw [hq]
  · cases h
theorem fld_lay {M : mm} {a ci j : Nat} {d : Option (Option Nat)} (h : kdo a ci j = some d) : gx_fld (lay M) a ci j = some (kdv M a j d) := by
  unfold kdo at h
  split at h
  · rename_i q hq
    split at h
    · rename_i hc
      have hl : (lay M).2 a = .inr (q.1, q.2.mapIdx (kdv M a)) := by show cel M a = _; unfold cel; rw [hq]
      unfold gx_fld
      rw [hl]
      show (if q.1 = ci then (q.2.mapIdx (kdv M a))[j]? else none) = _
      rw [if_pos hc, List.getElem?_mapIdx, h]
      rfl
    · cases h
  · cases h
theorem fI_lay {M : mm} {a ci j : Nat} (h : kdo a ci j = some none) : gx_fI (lay M) a ci j = some (M.1 a j) := by unfold gx_fI; rw [fld_lay h]; rfl
theorem fJ_lay {M : mm} {a ci j : Nat} (h : kdo a ci j = some (some none)) : gx_fJ (lay M) a ci j = some (M.2.1 a j) := by unfold gx_fJ; rw [fld_lay h]; rfl
theorem fR_lay {M : mm} {a ci j r : Nat} (h : kdo a ci j = some (some (some r))) : gx_fR (lay M) a ci j = some r := by unfold gx_fR; rw [fld_lay h]; rfl
theorem isO_lay {M : mm} {a ci : Nat} (h : isC a ci = true) (hc : ci < 10) : gx_isO (lay M) a ci = some () := by
  obtain ⟨ks, -, h2⟩ := cel_C (M := M) h
  unfold gx_isO
  rw [show (lay M).2 a = _ from h2]
  simp [hc]
theorem kd_set (M : mm) (a j : Nat) (ks : List (Option (Option Nat))) (x : Int32) (hd : ks[j]? = some none) : (ks.mapIdx (kdv M a)).set j (.int x) = ks.mapIdx (kdv (sI M a j x) a) := by
  apply List.ext_getElem?
  intro i
  by_cases e : j = i
  · subst e
    have hl : j < (ks.mapIdx (kdv M a)).length := by rw [List.length_mapIdx]; exact (List.getElem?_eq_some_iff.mp hd).1
    rw [List.getElem?_set_self hl, List.getElem?_mapIdx, hd]
    show some (Value.int x) = some (kdv (sI M a j x) a j none)
    simp [kdv, sI, up2_s]
  · rw [List.getElem?_set_ne e, List.getElem?_mapIdx, List.getElem?_mapIdx]
    cases hq : ks[i]? with
    | none => rfl
    | some d =>
      show some (kdv M a i d) = some (kdv (sI M a j x) a i d)
      rcases d with _ | _ | r
      · simp [kdv, sI, up2, Ne.symm e]
      · rfl
      · rfl
theorem kd_setJ (M : mm) (a j : Nat) (ks : List (Option (Option Nat))) (x : Int64) (hd : ks[j]? = some (some none)) : (ks.mapIdx (kdv M a)).set j (.long x) = ks.mapIdx (kdv (sJ M a j x) a) := by
  apply List.ext_getElem?
  intro i
  by_cases e : j = i
  · subst e
    have hl : j < (ks.mapIdx (kdv M a)).length := by rw [List.length_mapIdx]; exact (List.getElem?_eq_some_iff.mp hd).1
    rw [List.getElem?_set_self hl, List.getElem?_mapIdx, hd]
    show some (Value.long x) = some (kdv (sJ M a j x) a j (some none))
    simp [kdv, sJ, up2_s]
  · rw [List.getElem?_set_ne e, List.getElem?_mapIdx, List.getElem?_mapIdx]
    cases hq : ks[i]? with
    | none => rfl
    | some d =>
      show some (kdv M a i d) = some (kdv (sJ M a j x) a i d)
      rcases d with _ | _ | r
      · rfl
      · simp [kdv, sJ, up2, Ne.symm e]
      · rfl
theorem cel_otherI (M : mm) {a j k : Nat} (x : Int32) (h : k ≠ a) : cel (sI M a j x) k = cel M k := by
  have e : (sI M a j x).1 k = M.1 k := up2_c M.1 x h
  have e2 : kdv (sI M a j x) k = kdv M k := by
    funext i d
    rcases d with _ | _ | r
    · show Value.int ((sI M a j x).1 k i) = _; rw [e]; rfl
    · rfl
    · rfl
  unfold cel
  rw [e, e2]
  rfl
theorem cel_otherJ (M : mm) {a j k : Nat} (x : Int64) (h : k ≠ a) : cel (sJ M a j x) k = cel M k := by
  have e : (sJ M a j x).2.1 k = M.2.1 k := up2_c M.2.1 x h
  have e2 : kdv (sJ M a j x) k = kdv M k := by
    funext i d
    rcases d with _ | _ | r
    · rfl
    · show Value.long ((sJ M a j x).2.1 k i) = _; rw [e]; rfl
    · rfl
  unfold cel
  rw [e2]
  rfl
theorem cel_otherP (M : mm) {a j k : Nat} (x : Option Nat) (h : k ≠ a) : cel (sP M a j x) k = cel M k := by
  have e : (sP M a j x).2.2 k = M.2.2 k := up2_c M.2.2 x h
  have e2 : kdv (sP M a j x) k = kdv M k := by
    funext i d
    rcases d with _ | _ | r <;> rfl
  unfold cel
  rw [e, e2]
  rfl
theorem lay_up {M M' : mm} {a : Nat} {c : gx_C} (h : cel M' a = c) (ho : ∀ k, k ≠ a → cel M' k = cel M k) : ((lay M).1, va_up (lay M).2 a c) = lay M' := by
  show (130, va_up (cel M) a c) = (130, cel M')
  congr 1
  funext k
  by_cases e : k = a
  · subst e; rw [va_up_self, h]
  · rw [va_up_ne _ _ e, ho k e]
theorem pI_lay {M : mm} {a ci j : Nat} {x : Int32} (h : kdo a ci j = some none) : gx_pF (lay M) a ci j (.int x) = some (lay (sI M a j x)) := by
  unfold kdo at h
  split at h
  · rename_i q hq
    split at h
    · rename_i hc
      have hl : (lay M).2 a = .inr (q.1, q.2.mapIdx (kdv M a)) := by show cel M a = _; unfold cel; rw [hq]
      unfold gx_pF
      rw [hl]
      have hlen : j < (q.2.mapIdx (kdv M a)).length := by rw [List.length_mapIdx]; exact (List.getElem?_eq_some_iff.mp h).1
      show (if q.1 = ci ∧ j < (q.2.mapIdx (kdv M a)).length then some ((lay M).1, va_up (lay M).2 a (.inr (ci, (q.2.mapIdx (kdv M a)).set j (.int x)))) else none) = _
      rw [if_pos ⟨hc, hlen⟩, kd_set M a j q.2 x h]
      exact congrArg some (lay_up (M' := sI M a j x) (by unfold cel; rw [hq, ← hc]) (fun k hk => cel_otherI M x hk))
    · cases h
  · cases h
theorem pJ_lay {M : mm} {a ci j : Nat} {x : Int64} (h : kdo a ci j = some (some none)) : gx_pF (lay M) a ci j (.long x) = some (lay (sJ M a j x)) := by
  unfold kdo at h
  split at h
  · rename_i q hq
    split at h
    · rename_i hc
      have hl : (lay M).2 a = .inr (q.1, q.2.mapIdx (kdv M a)) := by show cel M a = _; unfold cel; rw [hq]
      unfold gx_pF
      rw [hl]
      have hlen : j < (q.2.mapIdx (kdv M a)).length := by rw [List.length_mapIdx]; exact (List.getElem?_eq_some_iff.mp h).1
      show (if q.1 = ci ∧ j < (q.2.mapIdx (kdv M a)).length then some ((lay M).1, va_up (lay M).2 a (.inr (ci, (q.2.mapIdx (kdv M a)).set j (.long x)))) else none) = _
      rw [if_pos ⟨hc, hlen⟩, kd_setJ M a j q.2 x h]
      exact congrArg some (lay_up (M' := sJ M a j x) (by unfold cel; rw [hq, ← hc]) (fun k hk => cel_otherJ M x hk))
    · cases h
  · cases h
theorem al_lay {M : mm} {a t : Nat} (n : Nat) (h : isA a t n = true) (ht : t < 5) : gx_al (lay M) a = some (nI n) := by
  unfold gx_al
  rw [show (lay M).2 a = _ from cel_A (M := M) h]
  show (if t < 5 then some (Int32.ofNat n) else none) = _
  rw [if_pos ht]
  rfl
theorem inr_nI {j n : Nat} (hj : j < n) (hn : n ≤ 852) : ¬ (nI j < 0 ∨ n ≤ (nI j).toNatClampNeg) := nI_in hj (by omega)
theorem aI_lay {M : mm} {a t j : Nat} (n : Nat) (h : isA a t n = true) (ht : t ≤ 2) (hj : j < n) (hn : n ≤ 852) : gx_aI t (lay M) a (nI j) = some (M.1 a j) := by
  unfold gx_aI
  rw [show (lay M).2 a = _ from cel_A (M := M) h, if_pos ht]
  show (if t = t ∧ ¬ (nI j < 0 ∨ n ≤ (nI j).toNatClampNeg) then some (M.1 a (nI j).toNatClampNeg) else none) = _
  rw [if_pos ⟨rfl, inr_nI hj hn⟩, nI_clamp (by omega)]
theorem sI_lay {M : mm} {a t j : Nat} {x : Int32} (n : Nat) (h : isA a t n = true) (ht : t ≤ 2) (hj : j < n) (hn : n ≤ 852) : gx_sI t (lay M) a (nI j) x = some (lay (sI M a j x)) := by
  unfold gx_sI
  rw [show (lay M).2 a = _ from cel_A (M := M) h, if_pos ht]
  show (if t = t ∧ ¬ (nI j < 0 ∨ n ≤ (nI j).toNatClampNeg) then some ((lay M).1, va_up (lay M).2 a (.inl (t, n, .inl (upd (M.1 a) (nI j).toNatClampNeg x)))) else none) = _
  rw [if_pos ⟨rfl, inr_nI hj hn⟩, nI_clamp (by omega)]
  refine congrArg some (lay_up (M' := sI M a j x) ?_ (fun k hk => cel_otherI M x hk))
  rw [cel_A h, if_pos ht]
  have e : (sI M a j x).1 a = upd (M.1 a) j x := by
    funext l
    simp [sI, up2, upd]
  rw [e]
theorem aR_lay {M : mm} {a t j : Nat} (n : Nat) (h : isA a t n = true) (ht : ¬ t ≤ 2) (hj : j < n) (hn : n ≤ 852) : gx_aR t (lay M) a (nI j) = M.2.2 a j := by
  unfold gx_aR
  rw [show (lay M).2 a = _ from cel_A (M := M) h, if_neg ht]
  show (if t = t ∧ ¬ (nI j < 0 ∨ n ≤ (nI j).toNatClampNeg) then M.2.2 a (nI j).toNatClampNeg else none) = _
  rw [if_pos ⟨rfl, inr_nI hj hn⟩, nI_clamp (by omega)]
theorem sR_lay {M : mm} {a t j v : Nat} (n : Nat) (h : isA a t n = true) (ht : ¬ t ≤ 2) (hj : j < n) (hn : n ≤ 852) : gx_sR t (lay M) a (nI j) v = some (lay (sP M a j (some v))) := by
  unfold gx_sR
  rw [show (lay M).2 a = _ from cel_A (M := M) h, if_neg ht]
  show (if t = t ∧ ¬ (nI j < 0 ∨ n ≤ (nI j).toNatClampNeg) then some ((lay M).1, va_up (lay M).2 a (.inl (t, n, .inr (.inr (.inr (.inr (va_up (M.2.2 a) (nI j).toNatClampNeg (some v)))))))) else none) = _
  rw [if_pos ⟨rfl, inr_nI hj hn⟩, nI_clamp (by omega)]
  refine congrArg some (lay_up (M' := sP M a j (some v)) ?_ (fun k hk => cel_otherP M _ hk))
  rw [cel_A h, if_neg ht]
  have e : (sP M a j (some v)).2.2 a = va_up (M.2.2 a) j (some v) := by
    funext l
    simp [sP, up2, va_up]
  rw [e]
theorem gx_bd_some {α β : Type} (x : α) (h : gx_H) (f : α → gx_H → Option β) : gx_bd (some (x, h)) f = f x h := rfl
theorem c130 {P : Nat → Prop} [DecidablePred P] (h : (List.range 130).all (fun i => decide (P i)) = true) {a : Nat} (ha : a < 130) : P a := co_dec h ha
theorem kd_0_0 {a : Nat} (h : isC a 0 = true) : kdo a 0 0 = some none := (c130 (P := fun a => isC a 0 = true → kdo a 0 0 = some none) (by decide +kernel) (isC_lt h)) h
theorem kd_0_1 {a : Nat} (h : isC a 0 = true) : kdo a 0 1 = some none := (c130 (P := fun a => isC a 0 = true → kdo a 0 1 = some none) (by decide +kernel) (isC_lt h)) h
theorem kd_0_2 {a : Nat} (h : isC a 0 = true) : kdo a 0 2 = some none := (c130 (P := fun a => isC a 0 = true → kdo a 0 2 = some none) (by decide +kernel) (isC_lt h)) h
theorem kd_0_3 {a : Nat} (h : isC a 0 = true) : kdo a 0 3 = some none := (c130 (P := fun a => isC a 0 = true → kdo a 0 3 = some none) (by decide +kernel) (isC_lt h)) h
theorem kd_0_4 {a : Nat} (h : isC a 0 = true) : kdo a 0 4 = some (some (some (a + 1))) := (c130 (P := fun a => isC a 0 = true → kdo a 0 4 = some (some (some (a + 1)))) (by decide +kernel) (isC_lt h)) h
theorem kd_0_5 {a : Nat} (h : isC a 0 = true) : kdo a 0 5 = some (some (some (a + 2))) := (c130 (P := fun a => isC a 0 = true → kdo a 0 5 = some (some (some (a + 2)))) (by decide +kernel) (isC_lt h)) h
theorem kd_0_6 {a : Nat} (h : isC a 0 = true) : kdo a 0 6 = some (some (some (a + 3))) := (c130 (P := fun a => isC a 0 = true → kdo a 0 6 = some (some (some (a + 3)))) (by decide +kernel) (isC_lt h)) h
theorem kd_0_7 {a : Nat} (h : isC a 0 = true) : kdo a 0 7 = some (some (some (a + 4))) := (c130 (P := fun a => isC a 0 = true → kdo a 0 7 = some (some (some (a + 4)))) (by decide +kernel) (isC_lt h)) h
theorem kd_0_8 {a : Nat} (h : isC a 0 = true) : kdo a 0 8 = some (some (some (a + 5))) := (c130 (P := fun a => isC a 0 = true → kdo a 0 8 = some (some (some (a + 5)))) (by decide +kernel) (isC_lt h)) h
theorem kd_0_9 {a : Nat} (h : isC a 0 = true) : kdo a 0 9 = some (some (some (a + 6))) := (c130 (P := fun a => isC a 0 = true → kdo a 0 9 = some (some (some (a + 6)))) (by decide +kernel) (isC_lt h)) h
theorem kd_0_10 {a : Nat} (h : isC a 0 = true) : kdo a 0 10 = some (some (some (a + 7))) := (c130 (P := fun a => isC a 0 = true → kdo a 0 10 = some (some (some (a + 7)))) (by decide +kernel) (isC_lt h)) h
theorem kd_1_0 {a : Nat} (h : isC a 1 = true) : kdo a 1 0 = some (some (some (a + 1))) := (c130 (P := fun a => isC a 1 = true → kdo a 1 0 = some (some (some (a + 1)))) (by decide +kernel) (isC_lt h)) h
theorem kd_1_1 {a : Nat} (h : isC a 1 = true) : kdo a 1 1 = some (some (some (a + 9))) := (c130 (P := fun a => isC a 1 = true → kdo a 1 1 = some (some (some (a + 9)))) (by decide +kernel) (isC_lt h)) h
theorem kd_1_2 {a : Nat} (h : isC a 1 = true) : kdo a 1 2 = some (some (some (a + 19))) := (c130 (P := fun a => isC a 1 = true → kdo a 1 2 = some (some (some (a + 19)))) (by decide +kernel) (isC_lt h)) h
theorem kd_1_3 {a : Nat} (h : isC a 1 = true) : kdo a 1 3 = some (some (some (a + 24))) := (c130 (P := fun a => isC a 1 = true → kdo a 1 3 = some (some (some (a + 24)))) (by decide +kernel) (isC_lt h)) h
theorem kd_2_0 {a : Nat} (h : isC a 2 = true) : kdo a 2 0 = some (some (some (a + 1))) := (c130 (P := fun a => isC a 2 = true → kdo a 2 0 = some (some (some (a + 1)))) (by decide +kernel) (isC_lt h)) h
theorem kd_3_0 {a : Nat} (h : isC a 3 = true) : kdo a 3 0 = some none := (c130 (P := fun a => isC a 3 = true → kdo a 3 0 = some none) (by decide +kernel) (isC_lt h)) h
theorem kd_3_1 {a : Nat} (h : isC a 3 = true) : kdo a 3 1 = some (some (some (a + 1))) := (c130 (P := fun a => isC a 3 = true → kdo a 3 1 = some (some (some (a + 1)))) (by decide +kernel) (isC_lt h)) h
theorem kd_4_0 {a : Nat} (h : isC a 4 = true) : kdo a 4 0 = some (some (some (a + 1))) := (c130 (P := fun a => isC a 4 = true → kdo a 4 0 = some (some (some (a + 1)))) (by decide +kernel) (isC_lt h)) h
theorem kd_4_1 {a : Nat} (h : isC a 4 = true) : kdo a 4 1 = some (some (some (a + 9))) := (c130 (P := fun a => isC a 4 = true → kdo a 4 1 = some (some (some (a + 9)))) (by decide +kernel) (isC_lt h)) h
theorem kd_4_2 {a : Nat} (h : isC a 4 = true) : kdo a 4 2 = some (some (some (a + 15))) := (c130 (P := fun a => isC a 4 = true → kdo a 4 2 = some (some (some (a + 15)))) (by decide +kernel) (isC_lt h)) h
theorem kd_4_3 {a : Nat} (h : isC a 4 = true) : kdo a 4 3 = some (some (some (a + 16))) := (c130 (P := fun a => isC a 4 = true → kdo a 4 3 = some (some (some (a + 16)))) (by decide +kernel) (isC_lt h)) h
theorem kd_4_4 {a : Nat} (h : isC a 4 = true) : kdo a 4 4 = some (some (some (a + 17))) := (c130 (P := fun a => isC a 4 = true → kdo a 4 4 = some (some (some (a + 17)))) (by decide +kernel) (isC_lt h)) h
theorem kd_4_5 {a : Nat} (h : isC a 4 = true) : kdo a 4 5 = some (some (some (a + 18))) := (c130 (P := fun a => isC a 4 = true → kdo a 4 5 = some (some (some (a + 18)))) (by decide +kernel) (isC_lt h)) h
theorem kd_4_6 {a : Nat} (h : isC a 4 = true) : kdo a 4 6 = some none := (c130 (P := fun a => isC a 4 = true → kdo a 4 6 = some none) (by decide +kernel) (isC_lt h)) h
theorem kd_4_7 {a : Nat} (h : isC a 4 = true) : kdo a 4 7 = some none := (c130 (P := fun a => isC a 4 = true → kdo a 4 7 = some none) (by decide +kernel) (isC_lt h)) h
theorem kd_5_0 {a : Nat} (h : isC a 5 = true) : kdo a 5 0 = some none := (c130 (P := fun a => isC a 5 = true → kdo a 5 0 = some none) (by decide +kernel) (isC_lt h)) h
theorem kd_5_1 {a : Nat} (h : isC a 5 = true) : kdo a 5 1 = some (some (some (a + 1))) := (c130 (P := fun a => isC a 5 = true → kdo a 5 1 = some (some (some (a + 1)))) (by decide +kernel) (isC_lt h)) h
theorem kd_5_2 {a : Nat} (h : isC a 5 = true) : kdo a 5 2 = some (some (some (a + 2))) := (c130 (P := fun a => isC a 5 = true → kdo a 5 2 = some (some (some (a + 2)))) (by decide +kernel) (isC_lt h)) h
theorem kd_5_3 {a : Nat} (h : isC a 5 = true) : kdo a 5 3 = some (some (some (a + 3))) := (c130 (P := fun a => isC a 5 = true → kdo a 5 3 = some (some (some (a + 3)))) (by decide +kernel) (isC_lt h)) h
theorem kd_5_4 {a : Nat} (h : isC a 5 = true) : kdo a 5 4 = some (some (some (a + 4))) := (c130 (P := fun a => isC a 5 = true → kdo a 5 4 = some (some (some (a + 4)))) (by decide +kernel) (isC_lt h)) h
theorem kd_6_0 {a : Nat} (h : isC a 6 = true) : kdo a 6 0 = some none := (c130 (P := fun a => isC a 6 = true → kdo a 6 0 = some none) (by decide +kernel) (isC_lt h)) h
theorem kd_6_1 {a : Nat} (h : isC a 6 = true) : kdo a 6 1 = some none := (c130 (P := fun a => isC a 6 = true → kdo a 6 1 = some none) (by decide +kernel) (isC_lt h)) h
theorem kd_6_2 {a : Nat} (h : isC a 6 = true) : kdo a 6 2 = some none := (c130 (P := fun a => isC a 6 = true → kdo a 6 2 = some none) (by decide +kernel) (isC_lt h)) h
theorem kd_6_3 {a : Nat} (h : isC a 6 = true) : kdo a 6 3 = some none := (c130 (P := fun a => isC a 6 = true → kdo a 6 3 = some none) (by decide +kernel) (isC_lt h)) h
theorem kd_6_4 {a : Nat} (h : isC a 6 = true) : kdo a 6 4 = some none := (c130 (P := fun a => isC a 6 = true → kdo a 6 4 = some none) (by decide +kernel) (isC_lt h)) h
theorem kd_7_0 {a : Nat} (h : isC a 7 = true) : kdo a 7 0 = some none := (c130 (P := fun a => isC a 7 = true → kdo a 7 0 = some none) (by decide +kernel) (isC_lt h)) h
theorem kd_7_1 {a : Nat} (h : isC a 7 = true) : kdo a 7 1 = some (some (some (a + 1))) := (c130 (P := fun a => isC a 7 = true → kdo a 7 1 = some (some (some (a + 1)))) (by decide +kernel) (isC_lt h)) h
theorem kd_7_2 {a : Nat} (h : isC a 7 = true) : kdo a 7 2 = some (some (some (a + 9))) := (c130 (P := fun a => isC a 7 = true → kdo a 7 2 = some (some (some (a + 9)))) (by decide +kernel) (isC_lt h)) h
theorem kd_7_3 {a : Nat} (h : isC a 7 = true) : kdo a 7 3 = some (some (some (a + 10))) := (c130 (P := fun a => isC a 7 = true → kdo a 7 3 = some (some (some (a + 10)))) (by decide +kernel) (isC_lt h)) h
theorem kd_7_4 {a : Nat} (h : isC a 7 = true) : kdo a 7 4 = some none := (c130 (P := fun a => isC a 7 = true → kdo a 7 4 = some none) (by decide +kernel) (isC_lt h)) h
theorem kd_7_5 {a : Nat} (h : isC a 7 = true) : kdo a 7 5 = some none := (c130 (P := fun a => isC a 7 = true → kdo a 7 5 = some none) (by decide +kernel) (isC_lt h)) h
theorem kd_7_6 {a : Nat} (h : isC a 7 = true) : kdo a 7 6 = some none := (c130 (P := fun a => isC a 7 = true → kdo a 7 6 = some none) (by decide +kernel) (isC_lt h)) h
theorem kd_7_7 {a : Nat} (h : isC a 7 = true) : kdo a 7 7 = some none := (c130 (P := fun a => isC a 7 = true → kdo a 7 7 = some none) (by decide +kernel) (isC_lt h)) h
theorem kd_8_0 {a : Nat} (h : isC a 8 = true) : kdo a 8 0 = some (some (some (a + 1))) := (c130 (P := fun a => isC a 8 = true → kdo a 8 0 = some (some (some (a + 1)))) (by decide +kernel) (isC_lt h)) h
theorem kd_8_1 {a : Nat} (h : isC a 8 = true) : kdo a 8 1 = some (some (some (a + 30))) := (c130 (P := fun a => isC a 8 = true → kdo a 8 1 = some (some (some (a + 30)))) (by decide +kernel) (isC_lt h)) h
theorem kd_8_2 {a : Nat} (h : isC a 8 = true) : kdo a 8 2 = some (some (some (a + 89))) := (c130 (P := fun a => isC a 8 = true → kdo a 8 2 = some (some (some (a + 89)))) (by decide +kernel) (isC_lt h)) h
theorem kd_8_3 {a : Nat} (h : isC a 8 = true) : kdo a 8 3 = some (some (some (a + 90))) := (c130 (P := fun a => isC a 8 = true → kdo a 8 3 = some (some (some (a + 90)))) (by decide +kernel) (isC_lt h)) h
theorem kd_8_4 {a : Nat} (h : isC a 8 = true) : kdo a 8 4 = some (some (some (a + 101))) := (c130 (P := fun a => isC a 8 = true → kdo a 8 4 = some (some (some (a + 101)))) (by decide +kernel) (isC_lt h)) h
theorem kd_8_5 {a : Nat} (h : isC a 8 = true) : kdo a 8 5 = some (some (some (a + 120))) := (c130 (P := fun a => isC a 8 = true → kdo a 8 5 = some (some (some (a + 120)))) (by decide +kernel) (isC_lt h)) h
theorem kd_8_6 {a : Nat} (h : isC a 8 = true) : kdo a 8 6 = some (some none) := (c130 (P := fun a => isC a 8 = true → kdo a 8 6 = some (some none)) (by decide +kernel) (isC_lt h)) h
theorem kd_8_7 {a : Nat} (h : isC a 8 = true) : kdo a 8 7 = some (some none) := (c130 (P := fun a => isC a 8 = true → kdo a 8 7 = some (some none)) (by decide +kernel) (isC_lt h)) h
theorem kd_8_8 {a : Nat} (h : isC a 8 = true) : kdo a 8 8 = some none := (c130 (P := fun a => isC a 8 = true → kdo a 8 8 = some none) (by decide +kernel) (isC_lt h)) h
theorem kd_8_9 {a : Nat} (h : isC a 8 = true) : kdo a 8 9 = some none := (c130 (P := fun a => isC a 8 = true → kdo a 8 9 = some none) (by decide +kernel) (isC_lt h)) h
theorem kd_8_10 {a : Nat} (h : isC a 8 = true) : kdo a 8 10 = some none := (c130 (P := fun a => isC a 8 = true → kdo a 8 10 = some none) (by decide +kernel) (isC_lt h)) h
theorem kd_9_0 {a : Nat} (h : isC a 9 = true) : kdo a 9 0 = some (some (some (a + 1))) := (c130 (P := fun a => isC a 9 = true → kdo a 9 0 = some (some (some (a + 1)))) (by decide +kernel) (isC_lt h)) h
theorem kd_9_1 {a : Nat} (h : isC a 9 = true) : kdo a 9 1 = some (some (some (a + 2))) := (c130 (P := fun a => isC a 9 = true → kdo a 9 1 = some (some (some (a + 2)))) (by decide +kernel) (isC_lt h)) h
theorem kd_9_2 {a : Nat} (h : isC a 9 = true) : kdo a 9 2 = some (some (some (a + 3))) := (c130 (P := fun a => isC a 9 = true → kdo a 9 2 = some (some (some (a + 3)))) (by decide +kernel) (isC_lt h)) h
theorem kd_9_3 {a : Nat} (h : isC a 9 = true) : kdo a 9 3 = some none := (c130 (P := fun a => isC a 9 = true → kdo a 9 3 = some none) (by decide +kernel) (isC_lt h)) h
theorem kd_9_4 {a : Nat} (h : isC a 9 = true) : kdo a 9 4 = some (some none) := (c130 (P := fun a => isC a 9 = true → kdo a 9 4 = some (some none)) (by decide +kernel) (isC_lt h)) h
theorem kd_9_5 {a : Nat} (h : isC a 9 = true) : kdo a 9 5 = some (some none) := (c130 (P := fun a => isC a 9 = true → kdo a 9 5 = some (some none)) (by decide +kernel) (isC_lt h)) h
theorem kd_9_6 {a : Nat} (h : isC a 9 = true) : kdo a 9 6 = some (some (some (a + 4))) := (c130 (P := fun a => isC a 9 = true → kdo a 9 6 = some (some (some (a + 4)))) (by decide +kernel) (isC_lt h)) h
theorem kd_9_7 {a : Nat} (h : isC a 9 = true) : kdo a 9 7 = some none := (c130 (P := fun a => isC a 9 = true → kdo a 9 7 = some none) (by decide +kernel) (isC_lt h)) h
theorem kd_9_8 {a : Nat} (h : isC a 9 = true) : kdo a 9 8 = some none := (c130 (P := fun a => isC a 9 = true → kdo a 9 8 = some none) (by decide +kernel) (isC_lt h)) h
theorem kd_9_9 {a : Nat} (h : isC a 9 = true) : kdo a 9 9 = some none := (c130 (P := fun a => isC a 9 = true → kdo a 9 9 = some none) (by decide +kernel) (isC_lt h)) h
theorem kd_9_10 {a : Nat} (h : isC a 9 = true) : kdo a 9 10 = some (some (some (a + 5))) := (c130 (P := fun a => isC a 9 = true → kdo a 9 10 = some (some (some (a + 5)))) (by decide +kernel) (isC_lt h)) h
theorem kd_9_11 {a : Nat} (h : isC a 9 = true) : kdo a 9 11 = some (some (some (a + 6))) := (c130 (P := fun a => isC a 9 = true → kdo a 9 11 = some (some (some (a + 6)))) (by decide +kernel) (isC_lt h)) h
theorem kd_9_12 {a : Nat} (h : isC a 9 = true) : kdo a 9 12 = some (some (some (a + 7))) := (c130 (P := fun a => isC a 9 = true → kdo a 9 12 = some (some (some (a + 7)))) (by decide +kernel) (isC_lt h)) h
theorem kd_9_13 {a : Nat} (h : isC a 9 = true) : kdo a 9 13 = some (some none) := (c130 (P := fun a => isC a 9 = true → kdo a 9 13 = some (some none)) (by decide +kernel) (isC_lt h)) h
