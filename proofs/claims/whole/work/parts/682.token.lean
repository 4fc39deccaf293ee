/-! the class's tokens -/
section TOK
variable {t : Nat} {tx : Nat → Int32}
def bl (t : Nat) (tx : Nat → Int32) (p : Nat) : Nat := run t tx 32 32 p
def le (t : Nat) (tx : Nat → Int32) (p : Nat) : Nat := run t tx 97 122 p
def dg (t : Nat) (tx : Nat → Int32) (p : Nat) : Nat := run t tx 48 57 p
def kd (t : Nat) (tx : Nat → Int32) (s : Nat) : Int32 := if t ≤ s then 0 else if s < le t tx s then 1 else if s < dg t tx s then (if dg t tx s - s ≤ 2 then 2 else 4) else if tx s = 59 then 3 else 4
def en (t : Nat) (tx : Nat → Int32) (s : Nat) : Nat := if t ≤ s then s else if s < le t tx s then le t tx s else if s < dg t tx s then dg t tx s else s + 1
def F4 (M M' : mm) : Prop := M'.2 = M.2 ∧ (∀ a, a ≠ 90 → M'.1 a = M.1 a) ∧ ∀ j, j < 4 → M'.1 90 j = M.1 90 j
theorem F4.rf {M : mm} : F4 M M := ⟨rfl, fun _ _ => rfl, fun _ _ => rfl⟩
theorem F4.tr {M M' M'' : mm} (h : F4 M M') (h2 : F4 M' M'') : F4 M M'' := ⟨h2.1.trans h.1, fun a ha => (h2.2.1 a ha).trans (h.2.1 a ha), fun j hj => (h2.2.2 j hj).trans (h.2.2 j hj)⟩
theorem F4.put {M : mm} {j : Nat} {x : Int32} (h : 4 ≤ j) : F4 M (sI M 90 j x) := ⟨rfl, fun a ha => sI_o ha, fun k hk => sI_n (by omega)⟩
theorem CT.f4 {M M' : mm} (h : CT M t tx) (f : F4 M M') : CT M' t tx := ⟨by rw [f.2.2 0 (by omega)]; exact h.1, fun k hk => by rw [f.2.1 99 (by omega)]; exact h.2 k hk⟩
theorem sub0 {a b : Nat} (h : b ≤ a) (ha : a ≤ 1000) : nI a - nI b ≤ 0 ↔ ¬ b < a := by
  rw [pk_sub h, le0 (by omega)]
  omega
theorem c_value {M : mm} {s e : Nat} (hc : CT M t tx) (h150 : t ≤ 150) (h5 : M.1 90 5 = nI s) (he : s < e) (het : e ≤ t) : ∃ v, fX9_valueOf 90 (nI (e - s)) (lay M) = some (v, lay M) ∧ v = vl tx s e := by
  unfold fX9_valueOf fX9_valueOf_39 vl
  rw [o_90, Option.bind_some, i_90_5, Option.bind_some, h5, c_byte hc h150 (by omega), gx_bd_some]
  by_cases c : e - s = 1
  · rw [if_pos c, if_pos (show nI (e - s) = 1 from by rw [c]; rfl)]
    exact ⟨_, rfl, rfl⟩
  · rw [if_neg c, if_neg (show ¬ nI (e - s) = 1 from ne_nI (b := 1) (by omega) (by omega) c), i_90_5, Option.bind_some, h5, nI_1, c_byte hc h150 (by omega), gx_bd_some]
    exact ⟨_, rfl, rfl⟩
theorem c_token {M : mm} {p : Nat} (hT : okT t tx) (hc : CT M t tx) (hp : p ≤ t) (h6 : M.1 90 6 = nI p) : ∃ M', fX9_nextToken 90 (lay M) = some ((), lay M') ∧ F4 M M' ∧ M'.1 90 5 = nI (bl t tx p) ∧ M'.1 90 4 = kd t tx (bl t tx p) ∧ M'.1 90 6 = nI (en t tx (bl t tx p)) ∧ (kd t tx (bl t tx p) = 2 → M'.1 90 7 = vl tx (bl t tx p) (dg t tx (bl t tx p))) := by
  have h150 := hT.1
  have hs := run_ge (tx := tx) (lo := 32) (hi := 32) hp
  unfold fX9_nextToken fX9_nextToken_126 fX9_nextToken_170 fX9_nextToken_173
  rw [o_90, Option.bind_some, i_90_6, Option.bind_some, h6, c_run hc h150 hp, gx_bd_some, pi_90_5, Option.bind_some, i_90_5, Option.bind_some, sI_s]
  show ∃ M', _ ∧ _
  unfold bl
  generalize run t tx 32 32 p = s at hs ⊢
  have hL := run_ge (tx := tx) (lo := 97) (hi := 122) hs.2
  have hG := run_ge (tx := tx) (lo := 48) (hi := 57) hs.2
  generalize hM1 : sI M 90 5 (nI s) = M1
  have f1 : F4 M M1 := by rw [← hM1]; exact F4.put (by omega)
  have hc1 : CT M1 t tx := hc.f4 f1
  have h5 : M1.1 90 5 = nI s := by rw [← hM1, sI_s]
  rw [c_run hc1 h150 hs.2, gx_bd_some, i_90_5, Option.bind_some, Option.bind_some, h5, c_run hc1 h150 hs.2, gx_bd_some, i_90_5, Option.bind_some, Option.bind_some, h5, i_90_0, Option.bind_some, hc1.1]
  unfold kd en le dg
  generalize run t tx 97 122 s = e1 at hL ⊢
  generalize hg : run t tx 48 57 s = e2 at hG ⊢
  by_cases c0 : t ≤ s
  · rw [if_neg (show ¬ nI s < nI t from by rw [t_lt, nI_toInt (by omega), nI_toInt (by omega)]; omega), Option.bind_some, pi_90_6, Option.bind_some, pi_90_4, Option.bind_some, if_pos c0, if_pos c0]
    refine ⟨_, rfl, f1.tr ((F4.put (by omega)).tr (F4.put (by omega))), ?_, sI_s, ?_, fun z => absurd z (by decide)⟩
    · rw [sI_n (by omega), sI_n (by omega)]; exact h5
    · rw [sI_n (by omega), sI_s]
  rw [if_pos (nI_lt (by omega) (by omega)), if_neg c0, if_neg c0]
  by_cases c1 : s < e1
  · rw [if_neg (fun z => (sub0 hL.1 (by omega)).mp z c1), Option.bind_some, pi_90_6, Option.bind_some, pi_90_4, Option.bind_some, if_pos c1, if_pos c1, pk_sub hL.1, nI_add]
    refine ⟨_, rfl, f1.tr ((F4.put (by omega)).tr (F4.put (by omega))), ?_, sI_s, ?_, fun z => absurd z (by decide)⟩
    · rw [sI_n (by omega), sI_n (by omega)]; exact h5
    · rw [sI_n (by omega), sI_s, show s + (e1 - s) = e1 by omega]
  rw [if_pos ((sub0 hL.1 (by omega)).mpr c1), if_neg c1, if_neg c1]
  by_cases c2 : s < e2
  · rw [if_neg (fun z => (sub0 hG.1 (by omega)).mp z c2), Option.bind_some, pi_90_6, Option.bind_some, if_pos c2, if_pos c2, pk_sub hG.1, nI_add, show s + (e2 - s) = e2 by omega]
    have hv : ∀ x : Int32, ∃ v, fX9_valueOf 90 (nI (e2 - s)) (lay (sI (sI M1 90 6 (nI e2)) 90 4 x)) = some (v, lay (sI (sI M1 90 6 (nI e2)) 90 4 x)) ∧ v = vl tx s e2 := fun x => c_value ((hc1.f4 (F4.put (by omega))).f4 (F4.put (by omega))) h150 (by rw [sI_n (by omega), sI_n (by omega)]; exact h5) c2 hG.2
    by_cases c3 : e2 - s ≤ 2
    · obtain ⟨v, hv1, hv2⟩ := hv 2
      rw [if_neg (show ¬ (2 : Int32) < nI (e2 - s) from by rw [show (2 : Int32) = nI 2 from rfl, t_lt, nI_toInt (by omega), nI_toInt (by omega)]; omega), pi_90_4, Option.bind_some, hv1, gx_bd_some, pi_90_7, Option.bind_some, if_pos c3]
      refine ⟨_, rfl, f1.tr ((F4.put (by omega)).tr ((F4.put (by omega)).tr (F4.put (by omega)))), ?_, ?_, ?_, fun _ => by rw [sI_s, hv2]⟩
      · rw [sI_n (by omega), sI_n (by omega), sI_n (by omega)]; exact h5
      · rw [sI_n (by omega), sI_s]
      · rw [sI_n (by omega), sI_n (by omega), sI_s]
    · obtain ⟨v, hv1, hv2⟩ := hv 4
      rw [if_pos (show (2 : Int32) < nI (e2 - s) from nI_lt (a := 2) (by omega) (by omega)), pi_90_4, Option.bind_some, hv1, gx_bd_some, pi_90_7, Option.bind_some, if_neg c3]
      refine ⟨_, rfl, f1.tr ((F4.put (by omega)).tr ((F4.put (by omega)).tr (F4.put (by omega)))), ?_, ?_, ?_, fun z => absurd z (by decide)⟩
      · rw [sI_n (by omega), sI_n (by omega), sI_n (by omega)]; exact h5
      · rw [sI_n (by omega), sI_s]
      · rw [sI_n (by omega), sI_n (by omega), sI_s]
  rw [if_pos ((sub0 hG.1 (by omega)).mpr c2), Option.bind_some, nI_1, pi_90_6, Option.bind_some, i_90_5, Option.bind_some, sI_n (by omega), h5, c_byte (hc1.f4 (F4.put (by omega))) h150 (by omega), gx_bd_some, if_neg c2, if_neg c2]
  by_cases c3 : tx s = 59
  · rw [if_pos c3, if_pos c3, pi_90_4, Option.bind_some]
    refine ⟨_, rfl, f1.tr ((F4.put (by omega)).tr (F4.put (by omega))), ?_, sI_s, ?_, fun z => absurd z (by decide)⟩
    · rw [sI_n (by omega), sI_n (by omega)]; exact h5
    · rw [sI_n (by omega), sI_s]
  · rw [if_neg c3, if_neg c3, pi_90_4, Option.bind_some]
    refine ⟨_, rfl, f1.tr ((F4.put (by omega)).tr (F4.put (by omega))), ?_, sI_s, ?_, fun z => absurd z (by decide)⟩
    · rw [sI_n (by omega), sI_n (by omega)]; exact h5
    · rw [sI_n (by omega), sI_s]
/-! what the token's kind says -/
theorem no_both {x lo hi lo2 hi2 : Int32} (h : hi < lo2) : ¬ ((lo ≤ x ∧ x ≤ hi) ∧ (lo2 ≤ x ∧ x ≤ hi2)) := fun z => by
  obtain ⟨⟨a, b⟩, c, d⟩ := z
  rw [t_le] at b c
  rw [t_lt] at h
  omega
theorem kd_2 {s : Nat} (hT : okT t tx) (hs : s ≤ t) : kd t tx s = 2 ↔ (1 ≤ dg t tx s - s ∧ dg t tx s - s ≤ 2) := by
  have hG := run_ge (tx := tx) (lo := 48) (hi := 57) hs
  unfold kd
  constructor
  · intro z
    split at z
    · exact absurd z (by decide)
    · split at z
      · exact absurd z (by decide)
      · split at z
        · split at z
          · omega
          · exact absurd z (by decide)
        · split at z
          · exact absurd z (by decide)
          · exact absurd z (by decide)
  · intro z
    have h1 : s < dg t tx s := by omega
    have h2 := run_in (t := t) (tx := tx) (lo := 48) (hi := 57) (p := s) (k := s) (Nat.le_refl _) h1
    have h3 : le t tx s = s := run_no (fun y => no_both (by decide) ⟨h2, y⟩)
    have hdt : dg t tx s ≤ t := hG.2
    rw [if_neg (by omega), if_neg (by omega), if_pos h1, if_pos z.2]
theorem en_2 {s : Nat} (hT : okT t tx) (hs : s ≤ t) (h : kd t tx s = 2) : en t tx s = dg t tx s := by
  have hG := run_ge (tx := tx) (lo := 48) (hi := 57) hs
  have z := (kd_2 hT hs).mp h
  have h1 : s < dg t tx s := by omega
  have h2 := run_in (t := t) (tx := tx) (lo := 48) (hi := 57) (p := s) (k := s) (Nat.le_refl _) h1
  have h3 : le t tx s = s := run_no (fun y => no_both (by decide) ⟨h2, y⟩)
  have hdt : dg t tx s ≤ t := hG.2
  unfold en
  rw [if_neg (by omega), if_neg (by omega), if_pos h1]
theorem kd_3 {s : Nat} (hT : okT t tx) (hs : s ≤ t) : kd t tx s = 3 ↔ tx s = 59 := by
  unfold kd
  constructor
  · intro z
    split at z
    · exact absurd z (by decide)
    · split at z
      · exact absurd z (by decide)
      · split at z
        · split at z
          · exact absurd z (by decide)
          · exact absurd z (by decide)
        · split at z
          · assumption
          · exact absurd z (by decide)
  · intro z
    have h1 : ¬ t ≤ s := fun y => by rw [hT.2.1 s y] at z; exact absurd z (by decide)
    have h3 : le t tx s = s := run_no (by rw [z]; decide)
    have h4 : dg t tx s = s := run_no (by rw [z]; decide)
    rw [if_neg h1, if_neg (by omega), if_neg (by omega), if_pos z]
theorem en_3 {s : Nat} (hT : okT t tx) (hs : s ≤ t) (z : tx s = 59) : en t tx s = s + 1 ∧ s < t := by
  have h1 : ¬ t ≤ s := fun y => by rw [hT.2.1 s y] at z; exact absurd z (by decide)
  have h3 : le t tx s = s := run_no (by rw [z]; decide)
  have h4 : dg t tx s = s := run_no (by rw [z]; decide)
  unfold en
  rw [if_neg h1, if_neg (by omega), if_neg (by omega)]
  omega
theorem kd_1 {s : Nat} (hs : s ≤ t) : kd t tx s = 1 ↔ s < le t tx s := by
  have hL := run_ge (tx := tx) (lo := 97) (hi := 122) hs
  unfold kd
  constructor
  · intro z
    split at z
    · exact absurd z (by decide)
    · split at z
      · assumption
      · split at z
        · split at z
          · exact absurd z (by decide)
          · exact absurd z (by decide)
        · split at z
          · exact absurd z (by decide)
          · exact absurd z (by decide)
  · intro z
    have h2 : le t tx s ≤ t := hL.2
    rw [if_neg (by omega), if_pos z]
theorem en_1 {s : Nat} (hs : s ≤ t) (z : s < le t tx s) : en t tx s = le t tx s := by
  have h2 : le t tx s ≤ t := (run_ge (tx := tx) (lo := 97) (hi := 122) hs).2
  unfold en
  rw [if_neg (by omega), if_pos z]
theorem kd_0 {s : Nat} : kd t tx s = 0 ↔ t ≤ s := by
  unfold kd
  constructor
  · intro z
    split at z
    · assumption
    · split at z
      · exact absurd z (by decide)
      · split at z
        · split at z
          · exact absurd z (by decide)
          · exact absurd z (by decide)
        · split at z
          · exact absurd z (by decide)
          · exact absurd z (by decide)
  · intro z
    rw [if_pos z]
theorem vlN_vl {s e : Nat} (h : s < e) : vlN tx s e = vl tx s e := by
  unfold vlN vl
  rw [if_neg (by omega)]
end TOK
