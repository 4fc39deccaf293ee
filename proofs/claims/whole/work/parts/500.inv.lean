/-! what ties the class's cells to the reference's -/
def eqv (n np : Nat) (V W : Nat → Int32) : Prop := V 0 = W 0 ∧ V 1 = W 1 ∧ V 2 = W 2 ∧ V 3 = W 3 ∧ (∀ k, k < n → V (4 + k) = W (4 + k) ∧ V (10 + k) = W (10 + k) ∧ V (16 + k) = W (16 + k) ∧ V (22 + k) = W (22 + k)) ∧ ∀ i, i < np → V (28 + i) = W (28 + i) ∧ V (32 + i) = W (32 + i) ∧ V (36 + i) = W (36 + i)
/-- notes, or marks: at the cells from s on, and in the row from p on -/
def seenR (G : Nat → Nat → Int32) (s : Nat) (w : Nat → Int32) (p : Nat) : Prop := ∃ m, m ≤ 6 ∧ G s 0 = nI m ∧ w p = nI m ∧ (∀ e, e < m → G (s + 1) e = w (p + 1 + 4 * e) ∧ G (s + 2) e = w (p + 2 + 4 * e) ∧ G (s + 3) e = w (p + 3 + 4 * e) ∧ G (s + 4) e = w (p + 4 + 4 * e)) ∧ ∀ e, e < m → bn (G (s + 3) e) 1 6
/-- a Step, as a change of the row -/
def tbS (f : Nat → Int32) (V : Nat → Int32) : Nat → Int32 := tb V (f 0).toNatClampNeg (f 1) (f 2) (if f 3 = -1 then none else some (f 3).toNatClampNeg) (f 4)
def stOK (f : Nat → Int32) (n np : Nat) : Prop := ∃ (pl : Nat) (lk : Option Nat), pl < np ∧ (∀ k, lk = some k → k < n) ∧ f 0 = nI pl ∧ f 3 = lkI lk
def snap (w : Nat → Int32) (p : Nat) (U : Nat → Int32) (n np : Nat) : Prop := (∀ i, i < np → w (p + i) = U (32 + i) ∧ w (p + 4 + i) = U (36 + i)) ∧ ∀ k, k < n → w (p + 8 + k) = U (22 + k)
def chain (F : Nat → Nat → Int32) (w : Nat → Int32) (n np : Nat) : Nat → (Nat → Int32) → Prop
  | 0, _ => True
  | j + 1, V => stOK (F j) n np ∧ okV (tbS (F j) V) n np ∧ snap w (91 + 14 * j) (tbS (F j) V) n np ∧ chain F w n np j (tbS (F j) V)
/-- a game: its cells (the board at 1, the history at 9, the notes at 19, the marks at 24), the reference's row of 203 places, the Steps' places -/
def RGf (G : Nat → Nat → Int32) (w : Nat → Int32) (P : Nat → Option Nat) (g : Nat) : Prop := ∃ (n np hs : Nat) (q : Nat → Nat), okV (VC G 1) n np ∧ eqv n np (VC G 1) w ∧ seenR G 19 w 40 ∧ seenR G 24 w 65 ∧ hs ≤ 8 ∧ G 9 0 = nI hs ∧ w 90 = nI hs ∧ (∀ j, j < 8 → P j = some (g + q j) ∧ 11 ≤ q j ∧ q j < 19) ∧ (∀ i j, i < 8 → j < 8 → q i = q j → i = j) ∧ chain (fun j => G (q j)) w n np hs (VC G 1)
def RG (M : mm) (g r : Nat) : Prop := ∃ (G : Nat → Nat → Int32) (w : Nat → Int32), (∀ a, a < 29 → M.1 (g + a) = G a) ∧ (∀ j, j < 203 → M.1 123 (r + j) = w j) ∧ RGf G w (M.2.2 (g + 10)) g
def IM (M : mm) (q g r : Nat) : Prop := M.1 89 q = M.1 124 q ∧ (M.1 89 q = 0 ∨ (M.1 89 q = 1 ∧ RG M g r))
/-- an image's Steps lie in their array -/
def IP (M : mm) (g : Nat) : Prop := ∃ q : Nat → Nat, (∀ j, j < 8 → M.2.2 (g + 10) j = some (g + q j) ∧ 11 ≤ q j ∧ q j < 19) ∧ ∀ i j, i < 8 → j < 8 → q i = q j → i = j
def TX (M : mm) : Prop := ∃ t, t ≤ 150 ∧ M.1 90 0 = nI t ∧ M.1 122 3 = nI t ∧ ∀ k, k < t → M.1 99 k = M.1 125 k ∧ bn (M.1 99 k) 0 127
def FQ (M : mm) : Prop := M.2.1 0 6 = M.2.1 122 4 ∧ M.2.1 0 7 = M.2.1 122 5
def ST (M : mm) : Prop := M.1 0 8 = M.1 126 0 ∧ M.1 0 9 = M.1 126 1 ∧ M.1 0 10 = M.1 126 2
def PP (M : mm) : Prop := (∀ j, j < 5 → M.2.2 110 j = some (111 + j)) ∧ M.2.2 30 0 = some 31 ∧ M.2.2 30 1 = some 60 ∧ IP M 31 ∧ IP M 60
def Inv (M : mm) : Prop := RG M 1 0 ∧ IM M 0 31 203 ∧ IM M 1 60 406 ∧ TX M ∧ FQ M ∧ ST M ∧ PP M
theorem RG.eq {M M' : mm} {g r : Nat} (h : RG M g r) (h1 : ∀ a, g ≤ a → a < g + 29 → M'.1 a = M.1 a) (h2 : M'.2.2 (g + 10) = M.2.2 (g + 10)) (h3 : ∀ j, r ≤ j → j < r + 203 → M'.1 123 j = M.1 123 j) : RG M' g r := by
  obtain ⟨G, w, a1, a2, a3⟩ := h
  exact ⟨G, w, fun a ha => (h1 (g + a) (by omega) (by omega)).trans (a1 a ha), fun j hj => (h3 (r + j) (by omega) (by omega)).trans (a2 j hj), by rw [h2]; exact a3⟩
/-- what every question keeps -/
def kp (M M' : mm) : Prop := M'.2.2 = M.2.2 ∧ M'.2.1 0 = M.2.1 0 ∧ M'.2.1 122 4 = M.2.1 122 4 ∧ M'.2.1 122 5 = M.2.1 122 5 ∧ (∀ a, a < 90 ∨ a = 99 ∨ (124 ≤ a ∧ a ≤ 126) → M'.1 a = M.1 a) ∧ M'.1 90 0 = M.1 90 0 ∧ M'.1 122 3 = M.1 122 3 ∧ ∀ j, j < 609 → M'.1 123 j = M.1 123 j
theorem kp.rf {M : mm} : kp M M := ⟨rfl, rfl, rfl, rfl, fun _ _ => rfl, rfl, rfl, fun _ _ => rfl⟩
theorem kp.tr {M M' M'' : mm} (h : kp M M') (h' : kp M' M'') : kp M M'' := by
  obtain ⟨a1, a2, a3, a4, a5, a6, a7, a8⟩ := h
  obtain ⟨b1, b2, b3, b4, b5, b6, b7, b8⟩ := h'
  exact ⟨b1.trans a1, b2.trans a2, b3.trans a3, b4.trans a4, fun a ha => (b5 a ha).trans (a5 a ha), b6.trans a6, b7.trans a7, fun j hj => (b8 j hj).trans (a8 j hj)⟩
theorem fr.kp {S : Nat → Prop} {M M' : mm} (h : fr S M M') (hs : ∀ a, S a → (91 ≤ a ∧ a < 99) ∨ (100 ≤ a ∧ a < 122) ∨ 127 ≤ a) : kp M M' := by
  obtain ⟨h1, h2⟩ := h
  have g : ∀ a, a < 91 ∨ a = 99 ∨ (122 ≤ a ∧ a ≤ 126) → M'.1 a = M.1 a := fun a ha => h2 a (fun q => by have := hs a q; omega)
  exact ⟨by rw [h1], by rw [h1], by rw [h1], by rw [h1], fun a ha => g a (by omega), by rw [g 90 (by omega)], by rw [g 122 (by omega)], fun j _ => by rw [g 123 (by omega)]⟩
theorem frW.kp {lo hi : Nat} {M M' : mm} (h : frW lo hi M M') (hl : 609 ≤ lo) : kp M M' := by
  obtain ⟨h1, h2, h3⟩ := h
  exact ⟨by rw [h1], by rw [h1], by rw [h1], by rw [h1], fun a ha => h2 a (by omega), by rw [h2 90 (by omega)], by rw [h2 122 (by omega)], fun j hj => h3 j (by omega)⟩
theorem IP.eq {M M' : mm} {g : Nat} (h : IP M g) (h2 : M'.2.2 (g + 10) = M.2.2 (g + 10)) : IP M' g := by
  obtain ⟨q, a1, a2⟩ := h
  exact ⟨q, by rw [h2]; exact a1, a2⟩
theorem Inv.kp {M M' : mm} (h : Inv M) (k : kp M M') : Inv M' := by
  obtain ⟨h1, h2, h3, h4, h5, h6, h7⟩ := h
  obtain ⟨a1, a2, a3, a4, a5, a6, a7, a8⟩ := k
  have e89 : M'.1 89 = M.1 89 := a5 89 (by omega)
  have e124 : M'.1 124 = M.1 124 := a5 124 (by omega)
  refine ⟨h1.eq (fun a _ _ => a5 a (by omega)) (by rw [a1]) (fun j _ _ => a8 j (by omega)), ?_, ?_, ?_, ?_, ?_, ?_⟩
  · refine ⟨by rw [e89, e124]; exact h2.1, ?_⟩
    rw [e89]
    rcases h2.2 with q | ⟨q, q2⟩
    · exact Or.inl q
    · exact Or.inr ⟨q, q2.eq (fun a _ _ => a5 a (by omega)) (by rw [a1]) (fun j _ _ => a8 j (by omega))⟩
  · refine ⟨by rw [e89, e124]; exact h3.1, ?_⟩
    rw [e89]
    rcases h3.2 with q | ⟨q, q2⟩
    · exact Or.inl q
    · exact Or.inr ⟨q, q2.eq (fun a _ _ => a5 a (by omega)) (by rw [a1]) (fun j _ _ => a8 j (by omega))⟩
  · obtain ⟨t, t1, t2, t3, t4⟩ := h4
    exact ⟨t, t1, a6.trans t2, a7.trans t3, fun k hk => by rw [a5 99 (by omega), a5 125 (by omega)]; exact t4 k hk⟩
  · exact ⟨by rw [a2, a3]; exact h5.1, by rw [a2, a4]; exact h5.2⟩
  · exact ⟨by rw [a5 0 (by omega), a5 126 (by omega)]; exact h6.1, by rw [a5 0 (by omega), a5 126 (by omega)]; exact h6.2.1, by rw [a5 0 (by omega), a5 126 (by omega)]; exact h6.2.2⟩
  · obtain ⟨p1, p2, p3, p4, p5⟩ := h7
    exact ⟨by rw [a1]; exact p1, by rw [a1]; exact p2, by rw [a1]; exact p3, p4.eq (by rw [a1]), p5.eq (by rw [a1])⟩
/-- where only the game and what is refused changes -/
theorem Inv.game {M M' : mm} (h : Inv M) (hg : RG M' 1 0) (hp : ∀ a, a ≠ 11 → M'.2.2 a = M.2.2 a) (hj : M'.2.1 = M.2.1) (hc : ∀ a, 30 ≤ a → a < 123 ∨ (124 ≤ a ∧ a < 126) → M'.1 a = M.1 a) (hw : ∀ j, 203 ≤ j → j < 609 → M'.1 123 j = M.1 123 j) (hs : ST M') : Inv M' := by
  obtain ⟨h1, h2, h3, h4, h5, h6, h7⟩ := h
  have e89 : M'.1 89 = M.1 89 := hc 89 (by omega) (by omega)
  have e124 : M'.1 124 = M.1 124 := hc 124 (by omega) (by omega)
  refine ⟨hg, ?_, ?_, ?_, ?_, hs, ?_⟩
  · refine ⟨by rw [e89, e124]; exact h2.1, ?_⟩
    rw [e89]
    rcases h2.2 with q | ⟨q, q2⟩
    · exact Or.inl q
    · exact Or.inr ⟨q, q2.eq (fun a _ _ => hc a (by omega) (by omega)) (hp _ (by omega)) (fun j _ _ => hw j (by omega) (by omega))⟩
  · refine ⟨by rw [e89, e124]; exact h3.1, ?_⟩
    rw [e89]
    rcases h3.2 with q | ⟨q, q2⟩
    · exact Or.inl q
    · exact Or.inr ⟨q, q2.eq (fun a _ _ => hc a (by omega) (by omega)) (hp _ (by omega)) (fun j _ _ => hw j (by omega) (by omega))⟩
  · obtain ⟨t, t1, t2, t3, t4⟩ := h4
    exact ⟨t, t1, by rw [hc 90 (by omega) (by omega)]; exact t2, by rw [hc 122 (by omega) (by omega)]; exact t3, fun k hk => by rw [hc 99 (by omega) (by omega), hc 125 (by omega) (by omega)]; exact t4 k hk⟩
  · unfold FQ; rw [hj]; exact h5
  · obtain ⟨p1, p2, p3, p4, p5⟩ := h7
    exact ⟨by rw [hp _ (by omega)]; exact p1, by rw [hp _ (by omega)]; exact p2, by rw [hp _ (by omega)]; exact p3, p4.eq (hp _ (by omega)), p5.eq (hp _ (by omega))⟩
def Op {α : Type} (fc fm : gx_H → Option (α × gx_H)) : Prop := ∀ M, Inv M → ∃ (x : α) (M1 M2 : mm), fc (lay M) = some (x, lay M1) ∧ fm (lay M1) = some (x, lay M2) ∧ Inv M2
/-! what is refused -/
def badC (M : mm) : mm := sI M 0 8 (M.1 0 8 + 1)
def noC (M : mm) : mm := sI M 0 9 (M.1 0 9 + 1)
def fullC (M : mm) : mm := sI M 0 10 (M.1 0 10 + 1)
def badR (M : mm) : mm := sI M 126 0 (M.1 126 0 + 1)
def noR (M : mm) : mm := sI M 126 1 (M.1 126 1 + 1)
def fullR (M : mm) : mm := sI M 126 2 (M.1 126 2 + 1)
theorem Inv.status {M M' : mm} (h : Inv M) (h2 : M'.2 = M.2) (hc : ∀ a, a ≠ 0 → a ≠ 126 → M'.1 a = M.1 a) (hs : ST M') : Inv M' :=
  h.game (h.1.eq (fun a _ _ => hc a (by omega) (by omega)) (by rw [h2]) (fun j _ _ => by rw [hc 123 (by omega) (by omega)])) (fun a _ => by rw [h2]) (by rw [h2]) (fun a _ _ => hc a (by omega) (by omega)) (fun j _ _ => by rw [hc 123 (by omega) (by omega)]) hs
theorem Inv.bad {M : mm} (h : Inv M) : Inv (badR (badC M)) := by
  refine h.status rfl (fun a h1 h2 => by unfold badR badC; rw [sI_o h2, sI_o h1]) ?_
  have s := h.2.2.2.2.2.1
  unfold badR badC
  refine ⟨?_, ?_, ?_⟩
  · rw [sI_o (by omega), sI_s, sI_s, sI_o (by omega), s.1]
  · rw [sI_o (by omega), sI_n (by omega), sI_n (by omega), sI_o (by omega), s.2.1]
  · rw [sI_o (by omega), sI_n (by omega), sI_n (by omega), sI_o (by omega), s.2.2]
theorem Inv.no {M : mm} (h : Inv M) : Inv (noR (noC M)) := by
  refine h.status rfl (fun a h1 h2 => by unfold noR noC; rw [sI_o h2, sI_o h1]) ?_
  have s := h.2.2.2.2.2.1
  unfold noR noC
  refine ⟨?_, ?_, ?_⟩
  · rw [sI_o (by omega), sI_n (by omega), sI_n (by omega), sI_o (by omega), s.1]
  · rw [sI_o (by omega), sI_s, sI_s, sI_o (by omega), s.2.1]
  · rw [sI_o (by omega), sI_n (by omega), sI_n (by omega), sI_o (by omega), s.2.2]
theorem Inv.full {M : mm} (h : Inv M) : Inv (fullR (fullC M)) := by
  refine h.status rfl (fun a h1 h2 => by unfold fullR fullC; rw [sI_o h2, sI_o h1]) ?_
  have s := h.2.2.2.2.2.1
  unfold fullR fullC
  refine ⟨?_, ?_, ?_⟩
  · rw [sI_o (by omega), sI_n (by omega), sI_n (by omega), sI_o (by omega), s.1]
  · rw [sI_o (by omega), sI_n (by omega), sI_n (by omega), sI_o (by omega), s.2.1]
  · rw [sI_o (by omega), sI_s, sI_s, sI_o (by omega), s.2.2]
theorem f11_bad' (M : mm) (x : Int32) : fX11_bad 122 x (lay M) = some (x, lay (badR M)) := f11_bad M x
theorem f11_no' (M : mm) : fX11_no 122 (lay M) = some (-3, lay (noR M)) := f11_no M
theorem f11_full' (M : mm) : fX11_full 122 (lay M) = some (-4, lay (fullR M)) := f11_full M
theorem f10_bad (M : mm) : fX10_refuse 0 (-2) (lay M) = some (-2, lay (badC M)) := by
  unfold fX10_refuse
  rw [o_0, Option.bind_some, if_neg (by decide), if_neg (by decide)]
  simp only [i_0_8, pi_0_8, Option.bind_some, fX10_refuse_48]
  rfl
theorem f10_no (M : mm) : fX10_refuse 0 (-3) (lay M) = some (-3, lay (noC M)) := by
  unfold fX10_refuse
  rw [o_0, Option.bind_some, if_neg (by decide), if_pos (by decide)]
  simp only [i_0_9, pi_0_9, Option.bind_some, fX10_refuse_48]
  rfl
theorem f10_full (M : mm) : fX10_refuse 0 (-4) (lay M) = some (-4, lay (fullC M)) := by
  unfold fX10_refuse
  rw [o_0, Option.bind_some, if_pos (by decide)]
  simp only [i_0_10, pi_0_10, Option.bind_some, fX10_refuse_48]
  rfl
theorem f10_ten (M : mm) : fX10_refuseByTen 0 (lay M) = some (-10, lay (badC M)) := by
  unfold fX10_refuseByTen
  rw [o_0, Option.bind_some, f10_bad, gx_bd_some]
theorem f10_within (x y z : Int32) (h : gx_H) : fX10_within x y z h = some (b2 (y ≤ x ∧ x ≤ z), h) := by
  unfold fX10_within fX10_within_14 fX10_within_15
  by_cases c1 : x < y
  · rw [if_pos c1, b2_f (by rw [t_lt] at c1; rw [t_le]; omega)]; rfl
  · rw [if_neg c1]
    by_cases c2 : z < x
    · rw [if_pos c2, b2_f (by rw [t_lt] at c2; rw [t_le, t_le]; omega)]; rfl
    · rw [if_neg c2, b2_t (by rw [t_lt] at c1 c2; rw [t_le, t_le]; omega)]; rfl
theorem f10_isPlayer (M : mm) (x : Int32) : fX10_isPlayer 0 x (lay M) = some (b2 (0 ≤ x ∧ x ≤ M.1 2 3 - 1), lay M) := by
  simp only [fX10_isPlayer, o_0, r_0_0, r_1_0, bi3 brd_2, Option.bind_some, f10_within, gx_bd_some, ret_b2]
theorem f10_isLink (M : mm) (x : Int32) : fX10_isLink 0 x (lay M) = some (b2 (0 ≤ x ∧ x ≤ M.1 2 2 - 1), lay M) := by
  simp only [fX10_isLink, o_0, r_0_0, r_1_0, bi2 brd_2, Option.bind_some, f10_within, gx_bd_some, ret_b2]
