/-! a game, told over the memory itself -/
theorem chain_eq {F F' : Nat → Nat → Int32} {w w' : Nat → Int32} {n np : Nat} (hn : n ≤ 6) (hp : np ≤ 4) : ∀ (hs : Nat) (V : Nat → Int32), hs ≤ 8 → (∀ j, j < hs → F j = F' j) → (∀ i, i < 203 → w i = w' i) → chain F w n np hs V → chain F' w' n np hs V
  | 0, V, _, _, _, _ => trivial
  | j + 1, V, h8, hF, hw, h => by
    obtain ⟨a1, a2, a3, a4⟩ := h
    have e := hF j (by omega)
    rw [e] at a1 a2 a3 a4
    refine ⟨a1, a2, ⟨fun i hi => ?_, fun k hk => ?_⟩, chain_eq hn hp j _ (by omega) (fun i hi => hF i (by omega)) hw a4⟩
    · rw [← hw _ (by omega), ← hw _ (by omega)]; exact a3.1 i hi
    · rw [← hw _ (by omega)]; exact a3.2 k hk
theorem RGf_eq {G G' : Nat → Nat → Int32} {w w' : Nat → Int32} {P : Nat → Option Nat} {g : Nat} (hG : ∀ a, a < 29 → G a = G' a) (hw : ∀ j, j < 203 → w j = w' j) (h : RGf G w P g) : RGf G' w' P g := by
  obtain ⟨n, np, hs, q, a1, a2, a3, a4, a5, a6, a7, a8, a9, a10⟩ := h
  have eV : VC G' 1 = VC G 1 := VC_eq (fun a h1 h2 => (hG a (by omega)).symm)
  have hn := a1.2.1
  have hp := a1.2.2.2.1
  refine ⟨n, np, hs, q, by rw [eV]; exact a1, ?_, ?_, ?_, a5, by rw [← hG 9 (by omega)]; exact a6, by rw [← hw 90 (by omega)]; exact a7, a8, a9, ?_⟩
  · rw [eV]
    obtain ⟨b1, b2, b3, b4, b5, b6⟩ := a2
    refine ⟨by rw [← hw 0 (by omega)]; exact b1, by rw [← hw 1 (by omega)]; exact b2, by rw [← hw 2 (by omega)]; exact b3, by rw [← hw 3 (by omega)]; exact b4, fun k hk => ?_, fun i hi => ?_⟩
    · rw [← hw _ (by omega), ← hw _ (by omega), ← hw _ (by omega), ← hw _ (by omega)]; exact b5 k hk
    · rw [← hw _ (by omega), ← hw _ (by omega), ← hw _ (by omega)]; exact b6 i hi
  · obtain ⟨m, m1, m2, m3, m4, m5⟩ := a3
    refine ⟨m, m1, by rw [← hG 19 (by omega)]; exact m2, by rw [← hw 40 (by omega)]; exact m3, fun e he => ?_, fun e he => by rw [← hG (19 + 3) (by omega)]; exact m5 e he⟩
    rw [← hG (19 + 1) (by omega), ← hG (19 + 2) (by omega), ← hG (19 + 3) (by omega), ← hG (19 + 4) (by omega), ← hw _ (by omega), ← hw _ (by omega), ← hw _ (by omega), ← hw _ (by omega)]
    exact m4 e he
  · obtain ⟨m, m1, m2, m3, m4, m5⟩ := a4
    refine ⟨m, m1, by rw [← hG 24 (by omega)]; exact m2, by rw [← hw 65 (by omega)]; exact m3, fun e he => ?_, fun e he => by rw [← hG (24 + 3) (by omega)]; exact m5 e he⟩
    rw [← hG (24 + 1) (by omega), ← hG (24 + 2) (by omega), ← hG (24 + 3) (by omega), ← hG (24 + 4) (by omega), ← hw _ (by omega), ← hw _ (by omega), ← hw _ (by omega), ← hw _ (by omega)]
    exact m4 e he
  · rw [eV]
    exact chain_eq hn hp hs _ a5 (fun j hj => hG _ (by have := a8 j (by omega); omega)) hw a10
theorem VC_g (C : Nat → Nat → Int32) (g : Nat) : VC (fun a => C (g + a)) 1 = VC C (g + 1) := by
  funext j
  unfold VC
  dsimp only
  rw [Nat.add_assoc]
theorem RG_iff {M : mm} {g r : Nat} : RG M g r ↔ RGf (fun a => M.1 (g + a)) (VR M.1 r) (M.2.2 (g + 10)) g := by
  constructor
  · rintro ⟨G, w, h1, h2, h3⟩
    exact RGf_eq (fun a ha => (h1 a ha).symm) (fun j hj => (h2 j hj).symm) h3
  · intro h
    exact ⟨_, _, fun _ _ => rfl, fun _ _ => rfl, h⟩
/-- the game as it stands -/
def GM (M : mm) (n np hs : Nat) (q : Nat → Nat) : Prop := okV (VC M.1 2) n np ∧ eqv n np (VC M.1 2) (VR M.1 0) ∧ seenR (fun a => M.1 (1 + a)) 19 (VR M.1 0) 40 ∧ seenR (fun a => M.1 (1 + a)) 24 (VR M.1 0) 65 ∧ hs ≤ 8 ∧ M.1 10 0 = nI hs ∧ M.1 123 90 = nI hs ∧ (∀ j, j < 8 → M.2.2 11 j = some (1 + q j) ∧ 11 ≤ q j ∧ q j < 19) ∧ (∀ i j, i < 8 → j < 8 → q i = q j → i = j) ∧ chain (fun j => M.1 (1 + q j)) (VR M.1 0) n np hs (VC M.1 2)
theorem VR0 (C : Nat → Nat → Int32) (j : Nat) : VR C 0 j = C 123 j := by unfold VR; rw [Nat.zero_add]
theorem GM_iff {M : mm} : RG M 1 0 ↔ ∃ n np hs q, GM M n np hs q := by
  rw [RG_iff]
  unfold RGf GM
  rw [VC_g]
  constructor
  · rintro ⟨n, np, hs, q, a1, a2, a3, a4, a5, a6, a7, a8⟩
    exact ⟨n, np, hs, q, a1, a2, a3, a4, a5, a6, by rw [← VR0 M.1 90]; exact a7, a8⟩
  · rintro ⟨n, np, hs, q, a1, a2, a3, a4, a5, a6, a7, a8⟩
    exact ⟨n, np, hs, q, a1, a2, a3, a4, a5, a6, by rw [VR0]; exact a7, a8⟩
theorem Inv.gm {M : mm} (h : Inv M) : ∃ n np hs q, GM M n np hs q := GM_iff.mp h.1
section GMF
variable {M : mm} {n np hs : Nat} {q : Nat → Nat}
theorem GM.nn (h : GM M n np hs q) : M.1 2 2 = nI n := c_n brd_2 h.1
theorem GM.pp (h : GM M n np hs q) : M.1 2 3 = nI np := c_np brd_2 h.1
theorem GM.w0 (h : GM M n np hs q) : M.1 123 0 = M.1 2 0 := by rw [← VR0 M.1 0, ← h.2.1.1, VC_0 _ _ (by omega)]
theorem GM.w1 (h : GM M n np hs q) : M.1 123 1 = M.1 2 1 := by rw [← VR0 M.1 1, ← h.2.1.2.1, VC_0 _ _ (by omega)]
theorem GM.w2 (h : GM M n np hs q) : M.1 123 2 = M.1 2 2 := by rw [← VR0 M.1 2, ← h.2.1.2.2.1, VC_0 _ _ (by omega)]
theorem GM.w3 (h : GM M n np hs q) : M.1 123 3 = M.1 2 3 := by rw [← VR0 M.1 3, ← h.2.1.2.2.2.1, VC_0 _ _ (by omega)]
theorem GM.L (h : GM M n np hs q) : bn (M.1 2 0) 10 40 := by rw [← VC_0 M.1 2 (by omega)]; exact h.1.2.2.2.2.1
theorem GM.D (h : GM M n np hs q) : bn (M.1 2 1) 2 6 := by rw [← VC_0 M.1 2 (by omega)]; exact h.1.2.2.2.2.2.1
/-- a number that names one of k -/
theorem in_k {x : Int32} {k : Nat} (hk : k ≤ 6) (h : 0 ≤ x ∧ x ≤ nI k - 1) : ∃ i, i < k ∧ x = nI i := by
  obtain ⟨h1, h2⟩ := h
  rw [t_le, i0] at h1
  have e : (nI k - 1).toInt = (k : Int) - 1 := by rw [t_sub (by rw [nI_toInt (by omega), i1]; omega) (by rw [nI_toInt (by omega), i1]; omega), nI_toInt (by omega), i1]
  rw [t_le, e] at h2
  obtain ⟨j, hj, rfl⟩ := bn_nI (x := x) (n := k) ⟨h1, by omega⟩
  rw [nI_toInt (by omega)] at h2
  exact ⟨j, by omega, rfl⟩
theorem in_n {x : Int32} {a b : Nat} (hb : b ≤ 1000000) (h : nI a ≤ x ∧ x ≤ nI b) (ha : a ≤ 1000000) : ∃ i, a ≤ i ∧ i ≤ b ∧ x = nI i := by
  obtain ⟨h1, h2⟩ := h
  rw [t_le, nI_toInt (by omega)] at h1 h2
  obtain ⟨j, hj, rfl⟩ := bn_nI (x := x) (n := b) ⟨by omega, by omega⟩
  rw [nI_toInt (by omega)] at h1
  exact ⟨j, by omega, hj, rfl⟩
end GMF
