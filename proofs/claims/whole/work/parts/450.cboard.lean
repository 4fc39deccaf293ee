/-! the class's Board, over the rows -/
section CB
variable {M : mm} {b s : Nat}
def inB (b : Nat) : Nat → Prop := fun a => b ≤ a ∧ a < b + 8
def inBS (b s : Nat) : Nat → Prop := fun a => (b ≤ a ∧ a < b + 8) ∨ a = s
theorem so (hs : isC s 6 = true) : gx_isO (lay M) s 6 = some () := isO_lay hs (by decide)
theorem si0 (hs : isC s 6 = true) : gx_fI (lay M) s 6 0 = some (M.1 s 0) := fI_lay (kd_6_0 hs)
theorem si1 (hs : isC s 6 = true) : gx_fI (lay M) s 6 1 = some (M.1 s 1) := fI_lay (kd_6_1 hs)
theorem si2 (hs : isC s 6 = true) : gx_fI (lay M) s 6 2 = some (M.1 s 2) := fI_lay (kd_6_2 hs)
theorem si3 (hs : isC s 6 = true) : gx_fI (lay M) s 6 3 = some (M.1 s 3) := fI_lay (kd_6_3 hs)
theorem si4 (hs : isC s 6 = true) : gx_fI (lay M) s 6 4 = some (M.1 s 4) := fI_lay (kd_6_4 hs)
theorem sp0 (hs : isC s 6 = true) {x : Int32} : gx_pF (lay M) s 6 0 (.int x) = some (lay (sI M s 0 x)) := pI_lay (kd_6_0 hs)
theorem sp1 (hs : isC s 6 = true) {x : Int32} : gx_pF (lay M) s 6 1 (.int x) = some (lay (sI M s 1 x)) := pI_lay (kd_6_1 hs)
theorem sp2 (hs : isC s 6 = true) {x : Int32} : gx_pF (lay M) s 6 2 (.int x) = some (lay (sI M s 2 x)) := pI_lay (kd_6_2 hs)
theorem sp3 (hs : isC s 6 = true) {x : Int32} : gx_pF (lay M) s 6 3 (.int x) = some (lay (sI M s 3 x)) := pI_lay (kd_6_3 hs)
theorem sp4 (hs : isC s 6 = true) {x : Int32} : gx_pF (lay M) s 6 4 (.int x) = some (lay (sI M s 4 x)) := pI_lay (kd_6_4 hs)
theorem sI_o {a j c : Nat} {x : Int32} (h : c ≠ a) : (sI M a j x).1 c = M.1 c := up2_c M.1 x h
theorem sI_s {a j : Nat} {x : Int32} : (sI M a j x).1 a j = x := up2_s M.1 a j x
theorem sI_n {a j k : Nat} {x : Int32} (h : k ≠ j) : (sI M a j x).1 a k = M.1 a k := up2_n M.1 x (fun q => h q.2)
theorem c_linkMet (hb : brd b) {n i : Nat} (hn : M.1 b 2 = nI n) (h6 : n ≤ 6) (hi : i < 4) (x : Int32) : fX0_linkMet b (nI i) x (lay M) = some (lkI (if x = M.1 (b + 6) i then none else lkG (M.1 (b + 2)) x n 0), lay M) := by
  unfold fX0_linkMet fX0_linkMet_19
  simp only [bo hb, br9 hb, ba6 hb hi, Option.bind_some]
  split
  · rfl
  · rw [c_linkOn hb x hn h6, gx_bd_some]
theorem met_C {n i : Nat} (h6 : n ≤ 6) (hi : i < 4) (x : Int32) : (if x = M.1 (b + 6) i then none else lkG (M.1 (b + 2)) x n 0) = (if x = VC M.1 b (32 + i) then none else lkG (fun k => VC M.1 b (10 + k)) x n 0) := by
  rw [VC_6 _ _ hi, lkG_eq (f := M.1 (b + 2)) (g := fun k => VC M.1 b (10 + k)) (fun j _ h => by rw [VC_2 _ _ (by omega)])]
theorem c_leadOf (hb : brd b) {k r : Nat} (hk : k < 6) (h1 : 1 ≤ r) (hr6 : r ≤ 6) (hto : bn (VC M.1 b (16 + k)) 0 40) (hl : bn (VC M.1 b 0) 10 40) : fX0_leadOf b (nI k) (nI r) (lay M) = some (lB (VC M.1 b (4 + k)) (VC M.1 b 0) (VC M.1 b (10 + k)) (VC M.1 b (16 + k)) (VC M.1 b (22 + k)) (nI r), lay M) := by
  unfold fX0_leadOf
  rw [VC_3 _ _ hk] at hto
  rw [VC_0 _ _ (by omega)] at hl
  simp only [bo hb, br4 hb, br5 hb, br6 hb, br7 hb, ba1 hb hk, ba2 hb hk, ba3 hb hk, ba4 hb hk, bi0 hb, Option.bind_some]
  rw [f4_square h1 hr6 hto hl, gx_bd_some, VC_1 _ _ hk, VC_0 _ _ (by omega), VC_2 _ _ hk, VC_3 _ _ hk, VC_4 _ _ hk]
theorem okV_to {V : Nat → Int32} {n np k : Nat} (h : okV V n np) (hk : k < n) : bn (V (16 + k)) 0 40 := ⟨(h.2.2.2.2.2.2.1 k hk).1.1, Int.le_trans (h.2.2.2.2.2.2.1 k hk).1.2 h.2.2.2.2.1.2⟩
theorem c_go (hb : brd b) {i : Nat} (hi : i < 4) (r : Int32) : gB (M.1 (b + 5) i) (M.1 b 0) (M.1 (b + 6) i) r = goV (VC M.1 b) i r := by
  unfold goV
  rw [VC_5 _ _ hi, VC_0 _ _ (by omega), VC_6 _ _ hi]
theorem c_n (hb : brd b) {n np : Nat} (h : okV (VC M.1 b) n np) : M.1 b 2 = nI n := by rw [← VC_0 M.1 b (by omega)]; exact h.1
theorem c_np (hb : brd b) {n np : Nat} (h : okV (VC M.1 b) n np) : M.1 b 3 = nI np := by rw [← VC_0 M.1 b (by omega)]; exact h.2.2.1
theorem c_landing (hb : brd b) {n np i r : Nat} (h : okV (VC M.1 b) n np) (hi : i < np) (h1 : 1 ≤ r) (hr6 : r ≤ 6) : fX0_landing b (nI i) (nI r) (lay M) = some (sqV (VC M.1 b) n i (nI r), lay M) := by
  have h4 : i < 4 := Nat.lt_of_lt_of_le hi h.2.2.2.1
  have h6 := h.2.1
  unfold fX0_landing fX0_landing_46
  simp only [bo hb, br8 hb, br9 hb, ba5 hb h4, ba6 hb h4, bi0 hb, Option.bind_some, f6_square, gx_bd_some]
  rw [c_go hb h4, c_linkMet hb (c_n hb h) h6 h4, gx_bd_some, met_C h6 h4]
  unfold sqV
  have hm : (if goV (VC M.1 b) i (nI r) = VC M.1 b (32 + i) then none else lkG (fun k => VC M.1 b (10 + k)) (goV (VC M.1 b) i (nI r)) n 0) = metV (VC M.1 b) n i (nI r) := rfl
  rw [hm]
  cases hq : metV (VC M.1 b) n i (nI r) with
  | none => rfl
  | some k =>
    obtain ⟨hk, hf⟩ := metV_lt hq
    rw [show lkI (some k) = nI k from rfl, if_neg (lkI_some (by omega)), c_leadOf hb (by omega) h1 hr6 (okV_to h hk) h.2.2.2.2.1, gx_bd_some, hf]
    rfl
theorem c_remember (hb : brd b) (hs : isC s 6 = true) (hsb : s < b ∨ b + 8 ≤ s) {i : Nat} (hi : i < 4) : ∃ M', fX0_remember b (nI i) s (lay M) = some ((), lay M') ∧ M'.1 s 0 = nI i ∧ M'.1 s 1 = VC M.1 b (32 + i) ∧ M'.1 s 2 = VC M.1 b (36 + i) ∧ M'.1 s 3 = -1 ∧ fr (fun a => a = s) M M' := by
  unfold fX0_remember
  simp only [bo hb, sp0 hs, sp1 hs, sp2 hs, sp3 hs, br9 hb, br10 hb, ba6 hb hi, ba7 hb hi, Option.bind_some]
  refine ⟨_, rfl, ?_, ?_, ?_, ?_, ((((fr.rf (S := fun a => a = s)).put rfl).put rfl).put rfl).put rfl⟩
  · rw [sI_n (by omega), sI_n (by omega), sI_n (by omega), sI_s]
  · rw [sI_n (by omega), sI_n (by omega), sI_s, sI_o (by omega), VC_6 _ _ hi]
  · rw [sI_n (by omega), sI_s, sI_o (by omega), sI_o (by omega), VC_7 _ _ hi]
  · rw [sI_s]
theorem c_move (hb : brd b) (hs : isC s 6 = true) (hsb : s < b ∨ b + 8 ≤ s) {n np i r : Nat} (h : okV (VC M.1 b) n np) (hi : i < np) (h1 : 1 ≤ r) (hr6 : r ≤ 6) :
    ∃ M', fX0_move b (nI i) (nI r) s (lay M) = some ((), lay M') ∧ VC M'.1 b = thr (VC M.1 b) n i (nI r) ∧ M'.1 s 0 = nI i ∧ M'.1 s 1 = VC M.1 b (32 + i) ∧ M'.1 s 2 = VC M.1 b (36 + i) ∧ M'.1 s 3 = lkI (metV (VC M.1 b) n i (nI r)) ∧ (∀ k, metV (VC M.1 b) n i (nI r) = some k → M'.1 s 4 = VC M.1 b (22 + k)) ∧ fr (inBS b s) M M' := by
  have h4 : i < 4 := Nat.lt_of_lt_of_le hi h.2.2.2.1
  have h6 := h.2.1
  obtain ⟨M1, e1, s0, s1, s2, s3, f1⟩ := c_remember (M := M) hb hs hsb h4
  have hV1 : VC M1.1 b = VC M.1 b := f1.V (fun a h1 h2 q => by omega)
  have hok1 : okV (VC M1.1 b) n np := by rw [hV1]; exact h
  have hm : (if goV (VC M1.1 b) i (nI r) = VC M1.1 b (32 + i) then none else lkG (fun k => VC M1.1 b (10 + k)) (goV (VC M1.1 b) i (nI r)) n 0) = metV (VC M1.1 b) n i (nI r) := rfl
  have hF1 : fr (inBS b s) M M1 := f1.mono (fun a q => Or.inr q)
  unfold fX0_move fX0_move_102
  simp only [bo hb, e1, gx_bd_some, br7 hb, br8 hb, br9 hb, br10 hb, ba5 hb h4, ba6 hb h4, bi0 hb, Option.bind_some, f6_square, bs6 hb h4, ba7 hb h4, bs7 hb h4]
  rw [c_go hb h4, c_linkMet hb (c_n hb hok1) h6 h4, gx_bd_some, met_C h6 h4, hm]
  simp only [br9 hb, bs6 hb h4, Option.bind_some]
  cases hq : metV (VC M1.1 b) n i (nI r) with
  | none =>
    have hq0 := hq
    rw [hV1] at hq0
    rw [if_pos (show lkI none = -1 from rfl)]
    try simp only [bs6 hb h4, br10 hb, ba7 hb h4, bs7 hb h4, Option.bind_some]
    refine ⟨_, rfl, ?_, ?_, ?_, ?_, ?_, ?_, ?_⟩
    · unfold thr
      rw [hq0]
      dsimp only
      rw [show (sI (sI M1 (b + 6) i (goV (VC M1.1 b) i (nI r))) (b + 7) i (if (sI M1 (b + 6) i (goV (VC M1.1 b) i (nI r))).1 (b + 7) i + 1 < 9999 then (sI M1 (b + 6) i (goV (VC M1.1 b) i (nI r))).1 (b + 7) i + 1 else 9999)).1 = up2 (up2 M1.1 (b + 6) i (goV (VC M1.1 b) i (nI r))) (b + 7) i (if (sI M1 (b + 6) i (goV (VC M1.1 b) i (nI r))).1 (b + 7) i + 1 < 9999 then (sI M1 (b + 6) i (goV (VC M1.1 b) i (nI r))).1 (b + 7) i + 1 else 9999) from rfl]
      rw [VC_u7 _ _ _ h4, VC_u6 _ _ _ h4, sI_o (by omega), ← VC_7 M1.1 b h4, hV1, tT_min (h.2.2.2.2.2.2.2 i hi).2]
    · rw [sI_o (by omega), sI_o (by omega)]; exact s0
    · rw [sI_o (by omega), sI_o (by omega)]; exact s1
    · rw [sI_o (by omega), sI_o (by omega)]; exact s2
    · rw [sI_o (by omega), sI_o (by omega), hq0]; exact s3
    · intro k hk; rw [hq0] at hk; cases hk
    · exact (hF1.put (Or.inl ⟨by omega, by omega⟩)).put (Or.inl ⟨by omega, by omega⟩)
  | some k =>
    have hq0 := hq
    rw [hV1] at hq0
    obtain ⟨hk, hf⟩ := metV_lt hq
    have hk6 : k < 6 := by omega
    rw [show lkI (some k) = nI k from rfl, if_neg (lkI_some (by omega))]
    generalize hg : goV (VC M1.1 b) i (nI r) = g
    simp only [sp3 hs, sp4 hs, br7 hb, br9 hb, ba4 hb hk6, Option.bind_some]
    generalize hM4 : sI (sI (sI M1 (b + 6) i g) s 3 (nI k)) s 4 ((sI (sI M1 (b + 6) i g) s 3 (nI k)).1 (b + 4) k) = M4
    have hu : (sI (sI M1 (b + 6) i g) s 3 (nI k)).1 (b + 4) k = VC M1.1 b (22 + k) := by rw [sI_o (by omega), sI_o (by omega), VC_4 _ _ hk6]
    have hV4 : VC M4.1 b = upd (VC M1.1 b) (32 + i) g := by
      rw [← hM4]
      rw [show ∀ x, (sI (sI (sI M1 (b + 6) i g) s 3 (nI k)) s 4 x).1 = up2 (up2 (up2 M1.1 (b + 6) i g) s 3 (nI k)) s 4 x from fun x => rfl, VC_out _ _ hsb, VC_out _ _ hsb, VC_u6 _ _ _ h4]
    have hto : bn (VC M4.1 b (16 + k)) 0 40 := by rw [hV4, upd_n _ _ (by omega)]; exact okV_to hok1 hk
    have hl : bn (VC M4.1 b 0) 10 40 := by rw [hV4, upd_n _ _ (by omega)]; exact hok1.2.2.2.2.1
    rw [c_leadOf hb hk6 h1 hr6 hto hl, gx_bd_some]
    simp only [bs6 hb h4, br7 hb, ba4 hb hk6, bs4 hb hk6, br10 hb, ba7 hb h4, bs7 hb h4, Option.bind_some]
    have hld : lB (VC M4.1 b (4 + k)) (VC M4.1 b 0) (VC M4.1 b (10 + k)) (VC M4.1 b (16 + k)) (VC M4.1 b (22 + k)) (nI r) = ldV (VC M.1 b) i k (nI r) := by
      unfold ldV
      rw [hV4, upd_n _ _ (by omega), upd_n _ _ (by omega), upd_n _ _ (by omega), upd_n _ _ (by omega), upd_n _ _ (by omega), hf, hV1]
    rw [hld]
    generalize hx2 : ldV (VC M.1 b) i k (nI r) = x2
    have hf4 : fr (inBS b s) M M4 := by
      rw [← hM4]
      exact ((hF1.put (Or.inl ⟨by omega, by omega⟩)).put (Or.inr rfl)).put (Or.inr rfl)
    have hu4 : M4.1 (b + 4) k = VC M.1 b (22 + k) := by rw [← VC_4 M4.1 b hk6, hV4, upd_n _ _ (by omega), hV1]
    have ht4 : M4.1 (b + 7) i = VC M.1 b (36 + i) := by rw [← VC_7 M4.1 b h4, hV4, upd_n _ _ (by omega), hV1]
    refine ⟨_, rfl, ?_, ?_, ?_, ?_, ?_, ?_, ?_⟩
    · unfold thr
      rw [hq0]
      dsimp only
      have e1 : (sI M4 (b + 6) i x2).1 (b + 4) k = VC M.1 b (22 + k) := by rw [sI_o (by omega), hu4]
      rw [e1, tU_min (h.2.2.2.2.2.2.1 k hk).2]
      have e2 : (sI (sI M4 (b + 6) i x2) (b + 4) k (tU (VC M.1 b (22 + k)))).1 (b + 7) i = VC M.1 b (36 + i) := by rw [sI_o (by omega), sI_o (by omega), ht4]
      rw [e2, tT_min (h.2.2.2.2.2.2.2 i hi).2]
      rw [show ∀ y z, (sI (sI (sI M4 (b + 6) i x2) (b + 4) k y) (b + 7) i z).1 = up2 (up2 (up2 M4.1 (b + 6) i x2) (b + 4) k y) (b + 7) i z from fun y z => rfl]
      rw [VC_u7 _ _ _ h4, VC_u4 _ _ _ hk6, VC_u6 _ _ _ h4, hV4, upd_upd, hV1, upd_comm (VC M.1 b) x2 (tU (VC M.1 b (22 + k))) (show 32 + i ≠ 22 + k by omega), hx2]
    · rw [sI_o (by omega), sI_o (by omega), sI_o (by omega), ← hM4, sI_n (by omega), sI_n (by omega), sI_o (by omega)]; exact s0
    · rw [sI_o (by omega), sI_o (by omega), sI_o (by omega), ← hM4, sI_n (by omega), sI_n (by omega), sI_o (by omega)]; exact s1
    · rw [sI_o (by omega), sI_o (by omega), sI_o (by omega), ← hM4, sI_n (by omega), sI_n (by omega), sI_o (by omega)]; exact s2
    · rw [sI_o (by omega), sI_o (by omega), sI_o (by omega), ← hM4, sI_n (by omega), sI_s, hq0]; rfl
    · intro k' hk'
      rw [hq0] at hk'
      cases hk'
      rw [sI_o (by omega), sI_o (by omega), sI_o (by omega), ← hM4, sI_s, hu, hV1]
    · exact ((hf4.put (Or.inl ⟨by omega, by omega⟩)).put (Or.inl ⟨by omega, by omega⟩)).put (Or.inl ⟨by omega, by omega⟩)
theorem c_takeBack (hb : brd b) (hs : isC s 6 = true) (hsb : s < b ∨ b + 8 ≤ s) {pl : Nat} {lk : Option Nat} (hp : M.1 s 0 = nI pl) (hp4 : pl < 4) (hl : M.1 s 3 = lkI lk) (hk : ∀ k, lk = some k → k < 6) :
    ∃ M', fX0_takeBack b s (lay M) = some ((), lay M') ∧ VC M'.1 b = tb (VC M.1 b) pl (M.1 s 1) (M.1 s 2) lk (M.1 s 4) ∧ fr (inB b) M M' := by
  unfold fX0_takeBack fX0_takeBack_47
  simp only [bo hb, br7 hb, br9 hb, br10 hb, si0 hs, si1 hs, si2 hs, si3 hs, si4 hs, Option.bind_some]
  rw [hp]
  simp only [bs6 hb hp4, si0 hs, si2 hs, br10 hb, Option.bind_some]
  rw [sI_o (show s ≠ b + 6 by omega), hp]
  simp only [bs7 hb hp4, si3 hs, si4 hs, br7 hb, Option.bind_some]
  rw [sI_o (show s ≠ b + 7 by omega), sI_o (show s ≠ b + 6 by omega), hl]
  cases lk with
  | none =>
    rw [if_pos (show lkI none = -1 from rfl)]
    refine ⟨_, rfl, ?_, (fr.rf.put ⟨by omega, by omega⟩).put ⟨by omega, by omega⟩⟩
    rw [show ∀ x y, (sI (sI M (b + 6) pl x) (b + 7) pl y).1 = up2 (up2 M.1 (b + 6) pl x) (b + 7) pl y from fun x y => rfl, VC_u7 _ _ _ hp4, VC_u6 _ _ _ hp4]
    rfl
  | some k =>
    have hk6 := hk k rfl
    rw [show lkI (some k) = nI k from rfl, if_neg (lkI_some (by omega))]
    simp only [bs4 hb hk6, Option.bind_some]
    refine ⟨_, rfl, ?_, ((fr.rf.put ⟨by omega, by omega⟩).put ⟨by omega, by omega⟩).put ⟨by omega, by omega⟩⟩
    rw [show ∀ x y z, (sI (sI (sI M (b + 6) pl x) (b + 7) pl y) (b + 4) k z).1 = up2 (up2 (up2 M.1 (b + 6) pl x) (b + 7) pl y) (b + 4) k z from fun x y z => rfl, VC_u4 _ _ _ hk6, VC_u7 _ _ _ hp4, VC_u6 _ _ _ hp4]
    rfl
end CB
