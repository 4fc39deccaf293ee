/-! rows of throws by their numbers: which is the first, how many -/
def fx (p : Nat → Bool) : Nat → Nat → Option Nat
  | 0, _ => none
  | m + 1, x => if p x = true then some x else fx p m (x + 1)
theorem fx_eq {p q : Nat → Bool} : ∀ (m x : Nat), (∀ y, x ≤ y → y < x + m → p y = q y) → fx p m x = fx q m x
  | 0, _, _ => rfl
  | m + 1, x, h => by
    unfold fx
    rw [h x (Nat.le_refl _) (by omega), fx_eq m (x + 1) (fun y h1 h2 => h y (by omega) (by omega))]
theorem fx_add {p : Nat → Bool} (b : Nat) : ∀ (a x : Nat), fx p (a + b) x = match fx p a x with
    | some y => some y
    | none => fx p b (x + a)
  | 0, x => by rw [Nat.zero_add]; rfl
  | a + 1, x => by
    have e : ∀ k x, fx p (k + 1) x = if p x = true then some x else fx p k (x + 1) := fun _ _ => rfl
    rw [show a + 1 + b = (a + b) + 1 by omega, e, e]
    by_cases c : p x = true
    · rw [if_pos c, if_pos c]
    · rw [if_neg c, if_neg c, fx_add b a (x + 1), show x + 1 + a = x + (a + 1) by omega]
theorem fx_sh {p : Nat → Bool} (a : Nat) : ∀ (m x : Nat), fx p m (a + x) = (fx (fun y => p (a + y)) m x).map (a + ·)
  | 0, x => rfl
  | m + 1, x => by
    unfold fx
    try dsimp only
    by_cases c : p (a + x) = true
    · rw [if_pos c, if_pos c]; rfl
    · rw [if_neg c, if_neg c]; exact fx_sh a m (x + 1)
theorem fx_bl {p : Nat → Bool} (w : Nat) : ∀ (c r : Nat), 1 ≤ r → fx p (c * w) ((r - 1) * w) = fst1 (fun r => fx (fun y => p ((r - 1) * w + y)) w 0) w c r
  | 0, r, _ => by rw [Nat.zero_mul]; rfl
  | c + 1, r, h => by
    rw [Nat.succ_mul, Nat.add_comm, fx_add]
    unfold fst1
    try dsimp only
    have e := fx_sh (p := p) ((r - 1) * w) w 0
    rw [Nat.add_zero] at e
    rw [e]
    cases fx (fun y => p ((r - 1) * w + y)) w 0 with
    | some y => rfl
    | none =>
      have e2 : (r - 1) * w + w = (r + 1 - 1) * w := by rw [← Nat.succ_mul]; congr 1; omega
      show fx p (c * w) ((r - 1) * w + w) = fst1 _ w c (r + 1)
      rw [e2]
      exact fx_bl w c (r + 1) (by omega)
theorem fst1_eq {g g' : Nat → Option Nat} {w : Nat} : ∀ (c r : Nat), (∀ x, r ≤ x → x < r + c → g x = g' x) → fst1 g w c r = fst1 g' w c r
  | 0, _, _ => rfl
  | c + 1, r, h => by
    unfold fst1
    rw [h r (Nat.le_refl _) (by omega), fst1_eq c (r + 1) (fun x h1 h2 => h x (by omega) (by omega))]
theorem fst1_none {g : Nat → Option Nat} {w : Nat} : ∀ (c r : Nat), fst1 g w c r = none → ∀ x, r ≤ x → x < r + c → g x = none
  | 0, r, _, x, h1, h2 => by omega
  | c + 1, r, h, x, h1, h2 => by
    unfold fst1 at h
    cases hq : g r with
    | some y => rw [hq] at h; cases h
    | none =>
      rw [hq] at h
      by_cases e : x = r
      · rw [e]; exact hq
      · exact fst1_none c (r + 1) h x (by omega) (by omega)
def plP (d n : Nat) (P : Nat → Nat) : Nat → Nat → (Nat → Int32) → Nat → Int32
  | 0, _, V => V
  | T + 1, x, V => plP d n P T x (one n (P T) V (x / d ^ T % d + 1))
theorem play_P {d n i : Nat} : ∀ (T x : Nat) (V : Nat → Int32), play d n i T x V = plP d n (fun _ => i) T x V
  | 0, _, _ => rfl
  | T + 1, x, V => play_P T x _
theorem plP_lo {d n : Nat} {P : Nat → Nat} (hd : 0 < d) {q y S : Nat} : ∀ (T : Nat) (V : Nat → Int32), T ≤ S → plP d n P T (q * d ^ S + y) V = plP d n P T y V
  | 0, _, _ => rfl
  | T + 1, V, h => by
    unfold plP
    rw [dig_lo hd (by omega)]
    exact plP_lo hd T _ (by omega)
theorem dig_0 {d m r y : Nat} (hr : r < d) (hy : y < d ^ m) : (r * d ^ m + y) / d ^ m % d + 1 = r + 1 := dig_hi (r := r + 1) (by omega) (by omega) hy
theorem plP_bl {d n : Nat} {P : Nat → Nat} {T r y : Nat} (hr : r < d) (hy : y < d ^ T) (V : Nat → Int32) : plP d n P (T + 1) (r * d ^ T + y) V = plP d n P T y (one n (P T) V (r + 1)) := by
  show plP d n P T (r * d ^ T + y) (one n (P T) V ((r * d ^ T + y) / d ^ T % d + 1)) = _
  rw [dig_0 hr hy, plP_lo (by omega) T _ (Nat.le_refl _)]
theorem fv_fx {d n i : Nat} (hd : 0 < d) : ∀ (T : Nat) (V : Nat → Int32), (∀ S, S < T → fv d n i S V = none) → fx (fun x => decide (plP d n (fun _ => i) T x V (32 + i) = plP d n (fun _ => i) T x V 0)) (d ^ T) 0 = fv d n i T V
  | 0, V, _ => by
    show fx _ 1 0 = _
    unfold fx fv plP fx
    try dsimp only
    by_cases c : V (32 + i) = V 0
    · rw [if_pos (decide_eq_true c), if_pos c]
    · rw [if_neg (fun z => c (of_decide_eq_true z)), if_neg c]
  | T + 1, V, h => by
    have hh : ¬ V (32 + i) = V 0 := fun z => by
      have := h 0 (by omega)
      unfold fv at this
      rw [if_pos z] at this
      cases this
    have e0 : fv d n i (T + 1) V = fst1 (fun r => fv d n i T (thr V n i (nI r))) (d ^ T) d 1 := by
      show (if V (32 + i) = V 0 then none else fst1 (fun r => fv d n i T (thr V n i (nI r))) (d ^ T) d 1) = _
      rw [if_neg hh]
    have eb := fx_bl (p := fun x => decide (plP d n (fun _ => i) (T + 1) x V (32 + i) = plP d n (fun _ => i) (T + 1) x V 0)) (d ^ T) d 1 (by omega)
    rw [show (1 - 1) * d ^ T = 0 by omega, show d * d ^ T = d ^ (T + 1) by rw [Nat.pow_succ, Nat.mul_comm]] at eb
    rw [eb, e0]
    refine fst1_eq d 1 (fun r h1 h2 => ?_)
    try dsimp only
    have ih := fv_fx (n := n) (i := i) hd T (thr V n i (nI r)) (fun S hS => by
      have z := h (S + 1) (by omega)
      have z2 : fst1 (fun r => fv d n i S (thr V n i (nI r))) (d ^ S) d 1 = none := by
        have e : fv d n i (S + 1) V = if V (32 + i) = V 0 then none else fst1 (fun r => fv d n i S (thr V n i (nI r))) (d ^ S) d 1 := rfl
        rw [e, if_neg hh] at z
        exact z
      exact fst1_none d 1 z2 r h1 h2)
    rw [← ih]
    refine fx_eq _ _ (fun y _ hy => ?_)
    try dsimp only
    have e : plP d n (fun _ => i) (T + 1) ((r - 1) * d ^ T + y) V = plP d n (fun _ => i) T y (thr V n i (nI r)) := by
      rw [plP_bl (by omega) (by omega)]
      rw [show r - 1 + 1 = r by omega]
      show plP d n (fun _ => i) T y (one n i V r) = _
      unfold one
      rw [if_neg hh]
    rw [e]
/-! sums -/
def sm (g : Nat → Nat) : Nat → Nat
  | 0 => 0
  | m + 1 => sm g m + g m
theorem sm_eq {g g' : Nat → Nat} : ∀ (m : Nat), (∀ x, x < m → g x = g' x) → sm g m = sm g' m
  | 0, _ => rfl
  | m + 1, h => by
    unfold sm
    rw [h m (by omega), sm_eq m (fun x hx => h x (by omega))]
theorem sm_add {g : Nat → Nat} (a : Nat) : ∀ b, sm g (a + b) = sm g a + sm (fun y => g (a + y)) b
  | 0 => rfl
  | b + 1 => by
    show sm g (a + b) + g (a + b) = sm g a + (sm (fun y => g (a + y)) b + g (a + b))
    rw [sm_add a b, Nat.add_assoc]
theorem sm_first {g : Nat → Nat} (m : Nat) : sm g (m + 1) = g 0 + sm (fun y => g (y + 1)) m := by
  rw [Nat.add_comm m 1, sm_add 1 m]
  show 0 + g 0 + _ = _
  rw [Nat.zero_add]
  congr 1
  exact sm_eq m (fun x _ => by rw [Nat.add_comm])
theorem sm_c (c : Nat) : ∀ m, sm (fun _ => c) m = m * c
  | 0 => by rw [Nat.zero_mul]; rfl
  | m + 1 => by
    show sm (fun _ => c) m + c = _
    rw [sm_c c m, Nat.succ_mul]
theorem sm_bl {g : Nat → Nat} (w : Nat) : ∀ c, sm g (c * w) = sm (fun r => sm (fun y => g (r * w + y)) w) c
  | 0 => by rw [Nat.zero_mul]; rfl
  | c + 1 => by
    rw [Nat.succ_mul, sm_add, sm_bl w c]
    rfl
theorem sm_le {g : Nat → Nat} {b : Nat} : ∀ m, (∀ x, x < m → g x ≤ b) → sm g m ≤ m * b
  | 0, _ => by rw [Nat.zero_mul]; exact Nat.le_refl _
  | m + 1, h => by
    show sm g m + g m ≤ _
    rw [Nat.succ_mul]
    exact Nat.add_le_add (sm_le m (fun x hx => h x (by omega))) (h m (by omega))
/-- over all rows of T throws -/
def SS (d n : Nat) (P : Nat → Nat) (F : (Nat → Int32) → Nat) (T : Nat) (V : Nat → Int32) : Nat := sm (fun x => F (plP d n P T x V)) (d ^ T)
theorem SS_0 {d n : Nat} {P : Nat → Nat} {F : (Nat → Int32) → Nat} {V : Nat → Int32} : SS d n P F 0 V = F V := by
  show 0 + F V = F V
  exact Nat.zero_add _
theorem SS_s {d n : Nat} {P : Nat → Nat} {F : (Nat → Int32) → Nat} {T : Nat} {V : Nat → Int32} : SS d n P F (T + 1) V = sm (fun r => SS d n P F T (one n (P T) V (r + 1))) d := by
  unfold SS
  rw [show d ^ (T + 1) = d * d ^ T by rw [Nat.pow_succ, Nat.mul_comm], sm_bl]
  refine sm_eq d (fun r hr => ?_)
  try dsimp only
  refine sm_eq _ (fun y hy => ?_)
  try dsimp only
  rw [plP_bl hr hy]
theorem SS_home {d n i : Nat} {F : (Nat → Int32) → Nat} {V : Nat → Int32} (h : V (32 + i) = V 0) : ∀ T, SS d n (fun _ => i) F T V = d ^ T * F V
  | 0 => by rw [SS_0, Nat.pow_zero, Nat.one_mul]
  | T + 1 => by
    rw [SS_s, sm_eq (g' := fun _ => d ^ T * F V) d (fun r _ => ?_), sm_c, Nat.pow_succ, ← Nat.mul_assoc, Nat.mul_comm d]
    try dsimp only
    rw [← SS_home h T]
    unfold one
    rw [if_pos h]
theorem SS_go {d n i : Nat} {F : (Nat → Int32) → Nat} {T : Nat} {V : Nat → Int32} (h : ¬ V (32 + i) = V 0) : SS d n (fun _ => i) F (T + 1) V = sm (fun r => SS d n (fun _ => i) F T (thr V n i (nI (r + 1)))) d := by
  rw [SS_s]
  refine sm_eq d (fun r _ => ?_)
  try dsimp only
  unfold one
  rw [if_neg h]
theorem one_o {n i j r : Nat} {V : Nat → Int32} (hj : j < 22) : one n i V r j = V j := by
  unfold one
  split
  · rfl
  · exact thr_o (by omega) (by omega) (fun k _ => by omega)
theorem plP_o {d n j : Nat} {P : Nat → Nat} (hj : j < 22) : ∀ (T x : Nat) (V : Nat → Int32), plP d n P T x V j = V j
  | 0, _, _ => rfl
  | T + 1, x, V => by
    unfold plP
    rw [plP_o hj T x _, one_o hj]
theorem okV_plP {d n np : Nat} {P : Nat → Nat} (hd1 : 1 ≤ d) (hd : d ≤ 6) (hP : ∀ t, P t < np) : ∀ (T x : Nat) (V : Nat → Int32), okV V n np → okV (plP d n P T x V) n np
  | 0, _, V, h => h
  | T + 1, x, V, h => okV_plP hd1 hd hP T x _ (okV_one h (hP T) (by omega) (by have := Nat.mod_lt (x / d ^ T) (show 0 < d by omega); omega))
theorem eqv_plP {d n np : Nat} {P : Nat → Nat} (hP : ∀ t, P t < np) : ∀ (T x : Nat) (V W : Nat → Int32), eqv n np V W → eqv n np (plP d n P T x V) (plP d n P T x W)
  | 0, _, V, W, h => h
  | T + 1, x, V, W, h => eqv_plP hP T x _ _ (eqv_one h (hP T))
