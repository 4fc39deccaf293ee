/-! the text, read: runs of bytes, on both sides -/
def rn (f : Nat → Bool) : Nat → Nat → Nat
  | 0, p => p
  | m + 1, p => if f p = true then rn f m (p + 1) else p
theorem rn_ge {f : Nat → Bool} : ∀ (m p : Nat), p ≤ rn f m p ∧ rn f m p ≤ p + m
  | 0, p => ⟨Nat.le_refl _, Nat.le_refl _⟩
  | m + 1, p => by
    unfold rn
    split
    · have := rn_ge (f := f) m (p + 1); omega
    · omega
theorem rn_in {f : Nat → Bool} : ∀ (m p k : Nat), p ≤ k → k < rn f m p → f k = true
  | 0, p, k, h1, h2 => by unfold rn at h2; omega
  | m + 1, p, k, h1, h2 => by
    unfold rn at h2
    split at h2
    · rename_i c
      by_cases e : k = p
      · rw [e]; exact c
      · exact rn_in m (p + 1) k (by omega) h2
    · omega
theorem rn_end {f : Nat → Bool} : ∀ (m p : Nat), rn f m p < p + m → ¬ f (rn f m p) = true
  | 0, p, h => by unfold rn at h; omega
  | m + 1, p, h => by
    unfold rn at h ⊢
    split
    · rename_i c
      rw [if_pos c] at h
      exact rn_end m (p + 1) (by omega)
    · assumption
theorem rn_no {f : Nat → Bool} {m p : Nat} (h : ¬ f p = true) : rn f m p = p := by
  cases m with
  | zero => rfl
  | succ m => unfold rn; rw [if_neg h]
theorem rn_yes {f : Nat → Bool} {m p : Nat} (h : f p = true) : p < rn f (m + 1) p := by
  unfold rn
  rw [if_pos h]
  have := (rn_ge (f := f) m (p + 1)).1
  omega
section TXT
variable {t : Nat} {tx : Nat → Int32}
def inr (tx : Nat → Int32) (lo hi : Int32) (k : Nat) : Bool := decide (lo ≤ tx k ∧ tx k ≤ hi)
def okT (t : Nat) (tx : Nat → Int32) : Prop := t ≤ 150 ∧ (∀ k, t ≤ k → tx k = -1) ∧ ∀ k, k < t → bn (tx k) 0 127
def CT (M : mm) (t : Nat) (tx : Nat → Int32) : Prop := M.1 90 0 = nI t ∧ ∀ k, k < t → M.1 99 k = tx k
def RT (N : mm) (t : Nat) (tx : Nat → Int32) : Prop := N.1 122 3 = nI t ∧ ∀ k, k < t → N.1 125 k = tx k
def run (t : Nat) (tx : Nat → Int32) (lo hi : Int32) (p : Nat) : Nat := rn (inr tx lo hi) (t - p) p
theorem run_ge {lo hi : Int32} {p : Nat} (h : p ≤ t) : p ≤ run t tx lo hi p ∧ run t tx lo hi p ≤ t := by
  have := rn_ge (f := inr tx lo hi) (t - p) p
  unfold run
  omega
theorem run_in {lo hi : Int32} {p k : Nat} (h1 : p ≤ k) (h2 : k < run t tx lo hi p) : lo ≤ tx k ∧ tx k ≤ hi := of_decide_eq_true (rn_in _ _ k h1 h2)
theorem run_end {lo hi : Int32} {p : Nat} (hp : p ≤ t) (h : run t tx lo hi p < t) : ¬ (lo ≤ tx (run t tx lo hi p) ∧ tx (run t tx lo hi p) ≤ hi) := fun z => rn_end (f := inr tx lo hi) (t - p) p (by show run t tx lo hi p < _; omega) (decide_eq_true z)
theorem run_no {lo hi : Int32} {p : Nat} (h : ¬ (lo ≤ tx p ∧ tx p ≤ hi)) : run t tx lo hi p = p := rn_no (fun z => h (of_decide_eq_true z))
theorem run_yes {lo hi : Int32} {p : Nat} (hp : p < t) (h : lo ≤ tx p ∧ tx p ≤ hi) : p < run t tx lo hi p := by
  unfold run
  rw [show t - p = (t - p - 1) + 1 by omega]
  exact rn_yes (decide_eq_true h)
theorem run_t {lo hi : Int32} {p : Nat} (h : t ≤ p) : run t tx lo hi p = p := by
  unfold run
  rw [show t - p = 0 by omega]
  rfl
theorem c_byte {M : mm} (hc : CT M t tx) (h150 : t ≤ 150) {k : Nat} (hk : k < t) : fX9_byteAt 90 (nI k) (lay M) = some (tx k, lay M) := by
  unfold fX9_byteAt fX9_byteAt_20 fX9_byteAt_21
  rw [o_90, Option.bind_some, if_neg (nI_pos (by omega)), if_neg (show ¬ (150 : Int32) ≤ nI k from nI_ge (b := 150) (by omega) (by omega)), r_90_2, Option.bind_some, aI_lay 150 (show isA 99 1 150 = true by decide) (by decide) (show k < 150 by omega) (by decide), Option.bind_some, hc.2 k hk]
theorem c_run_3 {M : mm} {lo hi : Int32} (hc : CT M t tx) (h150 : t ≤ 150) : ∀ (m p F : Nat), p + m = t → m < F → fX9_runEnd_3 F 90 lo hi (nI p) (lay M) = some (nI (rn (inr tx lo hi) m p), lay M)
  | m, p, 0, _, hF => by omega
  | 0, p, F + 1, hp, _ => by
    show bX9_runEnd_3 (fX9_runEnd_3 F) 90 lo hi (nI p) (lay M) = _
    unfold bX9_runEnd_3 fX9_runEnd_38
    rw [i_90_0, Option.bind_some, hc.1, if_pos (nI_le (by omega) (by omega))]
    rfl
  | m + 1, p, F + 1, hp, hF => by
    show bX9_runEnd_3 (fX9_runEnd_3 F) 90 lo hi (nI p) (lay M) = _
    unfold bX9_runEnd_3 fX9_runEnd_38 rn
    rw [i_90_0, Option.bind_some, hc.1, if_neg (nI_ge (by omega) (by omega)), c_byte hc h150 (by omega), gx_bd_some]
    by_cases c1 : tx p < lo
    · rw [if_pos c1, if_neg (fun z => by have := (of_decide_eq_true z).1; rw [t_le] at this; rw [t_lt] at c1; omega)]
    · rw [if_neg c1, c_byte hc h150 (by omega), gx_bd_some]
      by_cases c2 : hi < tx p
      · rw [if_pos c2, if_neg (fun z => by have := (of_decide_eq_true z).2; rw [t_le] at this; rw [t_lt] at c2; omega)]
      · rw [if_neg c2, if_pos (show inr tx lo hi p = true from decide_eq_true ⟨by rw [t_le]; rw [t_lt] at c1; omega, by rw [t_le]; rw [t_lt] at c2; omega⟩), nI_1]
        exact c_run_3 hc h150 m (p + 1) F (by omega) (by omega)
theorem c_run {M : mm} {lo hi : Int32} {p : Nat} (hc : CT M t tx) (h150 : t ≤ 150) (hp : p ≤ t) : fX9_runEnd 90 (nI p) lo hi (lay M) = some (nI (run t tx lo hi p), lay M) := by
  unfold fX9_runEnd
  rw [o_90, Option.bind_some]
  exact c_run_3 hc h150 (t - p) p gx_N (by omega) (by unfold gx_N; omega)
theorem r_byte {N : mm} (hc : RT N t tx) (h150 : t ≤ 150) (h1 : ∀ k, t ≤ k → tx k = -1) {k : Nat} (hk : k ≤ 1000) : fX11_byteAt 122 (nI k) (lay N) = some (tx k, lay N) := by
  unfold fX11_byteAt fX11_byteAt_18
  rw [o_122, Option.bind_some, i_122_3, Option.bind_some, hc.1]
  by_cases c : t ≤ k
  · rw [if_pos (nI_le (by omega) (by omega)), h1 k c]
  · rw [if_neg (nI_ge (by omega) (by omega)), r_122_2, Option.bind_some, aI_lay 150 (show isA 125 0 150 = true by decide) (by decide) (show k < 150 by omega) (by decide), Option.bind_some, hc.2 k (by omega)]
/-- the reference's reading: its three numbers alone -/
def F9 (N N' : mm) : Prop := N'.2 = N.2 ∧ (∀ a, a ≠ 122 → N'.1 a = N.1 a) ∧ ∀ j, j ≠ 7 → j ≠ 8 → j ≠ 9 → N'.1 122 j = N.1 122 j
theorem F9.rf {N : mm} : F9 N N := ⟨rfl, fun _ _ => rfl, fun _ _ _ _ => rfl⟩
theorem F9.tr {N N' N'' : mm} (h : F9 N N') (h2 : F9 N' N'') : F9 N N'' := ⟨h2.1.trans h.1, fun a ha => (h2.2.1 a ha).trans (h.2.1 a ha), fun j p q r => (h2.2.2 j p q r).trans (h.2.2 j p q r)⟩
theorem F9.put {N : mm} {j : Nat} {x : Int32} (h : j = 7 ∨ j = 8 ∨ j = 9) : F9 N (sI N 122 j x) := ⟨rfl, fun a ha => sI_o ha, fun k p q r => sI_n (by omega)⟩
theorem RT.f9 {N N' : mm} (h : RT N t tx) (f : F9 N N') : RT N' t tx := ⟨by rw [f.2.2 3 (by omega) (by omega) (by omega)]; exact h.1, fun k hk => by rw [f.2.1 125 (by omega)]; exact h.2 k hk⟩
theorem run32 {p : Nat} : (inr tx 32 32 p = true) ↔ tx p = 32 := by
  unfold inr
  rw [decide_eq_true_eq]
  constructor
  · intro z; rw [t_le, t_le] at z; exact t_inj (by omega)
  · intro z; rw [z]; decide
theorem r_blanks_0 (hT : okT t tx) : ∀ (m p F : Nat) (N : mm), p + m = t → m < F → RT N t tx → N.1 122 7 = nI p → ∃ N', fX11_blanks_0 F 122 (lay N) = some ((), lay N') ∧ F9 N N' ∧ N'.1 122 7 = nI (rn (inr tx 32 32) m p) ∧ N'.1 122 8 = nI (rn (inr tx 32 32) m p)
  | m, p, 0, N, _, hF, _, _ => by omega
  | 0, p, F + 1, N, hp, _, hr, h7 => by
    have h150 := hT.1
    show ∃ N', bX11_blanks_0 (fX11_blanks_0 F) 122 (lay N) = _ ∧ _
    unfold bX11_blanks_0
    rw [i_122_7, Option.bind_some, h7, r_byte hr hT.1 hT.2.1 (by omega), gx_bd_some, hT.2.1 p (by omega), if_neg (by decide), i_122_7, Option.bind_some, h7, pi_122_8, Option.bind_some]
    refine ⟨_, rfl, F9.put (by omega), ?_, ?_⟩
    · rw [sI_n (by omega)]; exact h7
    · rw [sI_s]; rfl
  | m + 1, p, F + 1, N, hp, hF, hr, h7 => by
    have h150 := hT.1
    show ∃ N', bX11_blanks_0 (fX11_blanks_0 F) 122 (lay N) = _ ∧ _
    unfold bX11_blanks_0 rn
    rw [i_122_7, Option.bind_some, h7, r_byte hr hT.1 hT.2.1 (by omega), gx_bd_some]
    by_cases c : tx p = 32
    · rw [if_pos c, if_pos (run32.mpr c), i_122_7, Option.bind_some, h7, pi_122_7, Option.bind_some, nI_1]
      obtain ⟨N', e1, e2, e3, e4⟩ := r_blanks_0 hT m (p + 1) F (sI N 122 7 (nI (p + 1))) (by omega) (by omega) (hr.f9 (F9.put (by omega))) sI_s
      exact ⟨N', e1, (F9.put (by omega)).tr e2, e3, e4⟩
    · rw [if_neg c, if_neg (fun z => c (run32.mp z)), i_122_7, Option.bind_some, h7, pi_122_8, Option.bind_some]
      refine ⟨_, rfl, F9.put (by omega), ?_, ?_⟩
      · rw [sI_n (by omega)]; exact h7
      · rw [sI_s]
theorem r_blanks {N : mm} {p : Nat} (hT : okT t tx) (hp : p ≤ t) (hr : RT N t tx) (h7 : N.1 122 7 = nI p) : ∃ N', fX11_blanks 122 (lay N) = some ((), lay N') ∧ F9 N N' ∧ N'.1 122 7 = nI (run t tx 32 32 p) ∧ N'.1 122 8 = nI (run t tx 32 32 p) := by
  have h150 := hT.1
  unfold fX11_blanks
  rw [o_122, Option.bind_some]
  exact r_blanks_0 hT (t - p) p gx_N N (by omega) (by unfold gx_N; omega) hr h7
theorem r_letters (hT : okT t tx) : ∀ (m p F : Nat) (N : mm), p + m = t → m < F → RT N t tx → N.1 122 7 = nI p → ∃ N', fX11_takesWord_4 F 122 (lay N) = some ((), lay N') ∧ F9 N N' ∧ N'.1 122 7 = nI (rn (inr tx 97 122) m p) ∧ N'.1 122 8 = N.1 122 8
  | m, p, 0, N, _, hF, _, _ => by omega
  | 0, p, F + 1, N, hp, _, hr, h7 => by
    have h150 := hT.1
    show ∃ N', bX11_takesWord_4 (fX11_takesWord_4 F) 122 (lay N) = _ ∧ _
    unfold bX11_takesWord_4
    rw [i_122_7, Option.bind_some, h7, r_byte hr hT.1 hT.2.1 (by omega), gx_bd_some, hT.2.1 p (by omega), f11_in, gx_bd_some, b2_f (by decide), if_pos rfl]
    exact ⟨N, rfl, F9.rf, h7, rfl⟩
  | m + 1, p, F + 1, N, hp, hF, hr, h7 => by
    have h150 := hT.1
    show ∃ N', bX11_takesWord_4 (fX11_takesWord_4 F) 122 (lay N) = _ ∧ _
    unfold bX11_takesWord_4 rn
    rw [i_122_7, Option.bind_some, h7, r_byte hr hT.1 hT.2.1 (by omega), gx_bd_some, f11_in, gx_bd_some, show (97 : Int64) = (97 : Int32).toInt64 from rfl, show (122 : Int64) = (122 : Int32).toInt64 from rfl]
    simp only [b_le]
    by_cases c : 97 ≤ tx p ∧ tx p ≤ 122
    · rw [b2_t c, if_neg (by decide), if_pos (show inr tx 97 122 p = true from decide_eq_true c), i_122_7, Option.bind_some, h7, pi_122_7, Option.bind_some, nI_1]
      obtain ⟨N', e1, e2, e3, e4⟩ := r_letters hT m (p + 1) F (sI N 122 7 (nI (p + 1))) (by omega) (by omega) (hr.f9 (F9.put (by omega))) sI_s
      exact ⟨N', e1, (F9.put (by omega)).tr e2, e3, by rw [e4, sI_n (by omega)]⟩
    · rw [b2_f c, if_pos (show (0 : Int32) = 0 from rfl), if_neg (show ¬ inr tx 97 122 p = true from fun z => c (of_decide_eq_true z))]
      exact ⟨N, rfl, F9.rf, h7, rfl⟩
/-- a number of one figure or two -/
def vl (tx : Nat → Int32) (s e : Nat) : Int32 := if e - s = 1 then tx s - 48 else (10 * (tx s - 48) + tx (s + 1)) - 48
def vlN (tx : Nat → Int32) (s p : Nat) : Int32 := if p = s then 0 else if p - s = 1 then tx s - 48 else (10 * (tx s - 48) + tx (s + 1)) - 48
theorem r_figs {lo hi : Int32} {s : Nat} (hT : okT t tx) : ∀ (m p F : Nat) (N : mm), p + m = t → s ≤ p → m < F → RT N t tx → N.1 122 7 = nI p → N.1 122 8 = nI s → N.1 122 9 = vlN tx s p → ∃ N', fX11_takesNumber_9 F 122 lo hi (lay N) = some (b2 ((1 ≤ rn (inr tx 48 57) m p - s ∧ rn (inr tx 48 57) m p - s ≤ 2) ∧ lo ≤ vlN tx s (rn (inr tx 48 57) m p) ∧ vlN tx s (rn (inr tx 48 57) m p) ≤ hi), lay N') ∧ F9 N N' ∧ N'.1 122 7 = nI (rn (inr tx 48 57) m p) ∧ N'.1 122 8 = nI s ∧ N'.1 122 9 = vlN tx s (rn (inr tx 48 57) m p)
  | m, p, 0, N, _, _, hF, _, _, _, _ => by omega
  | m, p, F + 1, N, hp, hs, hF, hr, h7, h8, h9 => by
    have h150 := hT.1
    show ∃ N', bX11_takesNumber_9 (fX11_takesNumber_9 F) 122 lo hi (lay N) = _ ∧ _
    unfold bX11_takesNumber_9 fX11_takesNumber_125 fX11_takesNumber_126 fX11_takesNumber_70
    rw [i_122_7, Option.bind_some, h7, r_byte hr hT.1 hT.2.1 (by omega), gx_bd_some, f11_in, gx_bd_some, show (48 : Int64) = (48 : Int32).toInt64 from rfl, show (57 : Int64) = (57 : Int32).toInt64 from rfl]
    simp only [b_le]
    have fin : ∀ e, rn (inr tx 48 57) m p = e → e = p → ∃ N', ((gx_fI (lay N) 122 9 7).bind fun x9 => (gx_fI (lay N) 122 9 8).bind fun x10 => gx_bd (fX11_in (x9 - x10).toInt64 1 2 (lay N)) fun x12 h11 => if x12 = 0 then gx_ret .boolean 0 h11 else (gx_fI h11 122 9 9).bind fun x13 => gx_bd (fX11_in x13.toInt64 lo.toInt64 hi.toInt64 h11) fun x15 h14 => if x15 = 0 then gx_ret .boolean 0 h14 else gx_ret .boolean 1 h14) = some (b2 ((1 ≤ e - s ∧ e - s ≤ 2) ∧ lo ≤ vlN tx s e ∧ vlN tx s e ≤ hi), lay N') ∧ F9 N N' ∧ N'.1 122 7 = nI e ∧ N'.1 122 8 = nI s ∧ N'.1 122 9 = vlN tx s e := by
      intro e _ he
      subst he
      refine ⟨N, ?_, F9.rf, h7, h8, h9⟩
      rw [i_122_7, Option.bind_some, i_122_8, Option.bind_some, h7, h8, pk_sub hs, f11_in, gx_bd_some, show (1 : Int64) = (1 : Int32).toInt64 from rfl, show (2 : Int64) = (2 : Int32).toInt64 from rfl]
      simp only [b_le]
      have e12 : ((1 : Int32) ≤ nI (e - s) ∧ nI (e - s) ≤ 2) ↔ (1 ≤ e - s ∧ e - s ≤ 2) := by
        rw [show (1 : Int32) = nI 1 from rfl, show (2 : Int32) = nI 2 from rfl, t_le, t_le, nI_toInt (by omega), nI_toInt (by omega), nI_toInt (by omega)]
        omega
      by_cases c1 : 1 ≤ e - s ∧ e - s ≤ 2
      · rw [b2_t (e12.mpr c1), if_neg (by decide), i_122_9, Option.bind_some, h9, f11_in, gx_bd_some]
        simp only [b_le]
        by_cases c2 : lo ≤ vlN tx s e ∧ vlN tx s e ≤ hi
        · rw [b2_t c2, if_neg (by decide), b2_t ⟨c1, c2⟩]; rfl
        · rw [b2_f c2, if_pos rfl, b2_f (fun z => c2 z.2)]; rfl
      · rw [b2_f (fun z => c1 (e12.mp z)), if_pos rfl, b2_f (fun z => c1 z.1)]; rfl
    by_cases c : 48 ≤ tx p ∧ tx p ≤ 57
    · have hpt : p < t := by
        by_cases z : t ≤ p
        · rw [hT.2.1 p z] at c; exact absurd c (by decide)
        · omega
      obtain ⟨m', rfl⟩ : ∃ m', m = m' + 1 := ⟨m - 1, by omega⟩
      have er : rn (inr tx 48 57) (m' + 1) p = rn (inr tx 48 57) m' (p + 1) := by
        show (if inr tx 48 57 p = true then _ else _) = _
        rw [if_pos (show inr tx 48 57 p = true from decide_eq_true c)]
      rw [er]
      rw [b2_t c, if_neg (by decide), i_122_7, Option.bind_some, i_122_8, Option.bind_some, h7, h8, pk_sub hs]
      by_cases c2 : 2 ≤ p - s
      · rw [if_pos (show (2 : Int32) ≤ nI (p - s) from nI_le (a := 2) c2 (by omega)), i_122_9, Option.bind_some, h9, pi_122_9, Option.bind_some, i_122_7, Option.bind_some, sI_n (by omega), h7, pi_122_7, Option.bind_some, nI_1]
        obtain ⟨N', e1, e2, e3, e4, e5⟩ := r_figs (lo := lo) (hi := hi) (s := s) hT m' (p + 1) F (sI (sI N 122 9 (vlN tx s p)) 122 7 (nI (p + 1))) (by omega) (by omega) (by omega) ((hr.f9 (F9.put (by omega))).f9 (F9.put (by omega))) sI_s (by rw [sI_n (by omega), sI_n (by omega)]; exact h8) (by
          rw [sI_n (by omega), sI_s]
          unfold vlN
          rw [if_neg (by omega), if_neg (by omega), if_neg (by omega), if_neg (by omega)])
        exact ⟨N', e1, ((F9.put (by omega)).tr (F9.put (by omega))).tr e2, e3, e4, e5⟩
      · rw [if_neg (show ¬ (2 : Int32) ≤ nI (p - s) from nI_ge (b := 2) (by omega) (by omega)), i_122_9, Option.bind_some, Option.bind_some, h9, r_byte hr hT.1 hT.2.1 (by omega), gx_bd_some, pi_122_9, Option.bind_some, i_122_7, Option.bind_some, sI_n (by omega), h7, pi_122_7, Option.bind_some, nI_1]
        obtain ⟨N', e1, e2, e3, e4, e5⟩ := r_figs (lo := lo) (hi := hi) (s := s) hT m' (p + 1) F (sI (sI N 122 9 ((10 * vlN tx s p + tx p) - 48)) 122 7 (nI (p + 1))) (by omega) (by omega) (by omega) ((hr.f9 (F9.put (by omega))).f9 (F9.put (by omega))) sI_s (by rw [sI_n (by omega), sI_n (by omega)]; exact h8) (by
          rw [sI_n (by omega), sI_s]
          unfold vlN
          by_cases z : p = s
          · subst z
            rw [if_pos rfl, if_neg (by omega), if_pos (by omega), show (10 : Int32) * 0 = 0 from rfl, Int32.zero_add]
          · rw [if_neg z, if_pos (show p - s = 1 by omega), if_neg (by omega), if_neg (by omega), show s + 1 = p by omega])
        exact ⟨N', e1, ((F9.put (by omega)).tr (F9.put (by omega))).tr e2, e3, e4, e5⟩
    · have er : rn (inr tx 48 57) m p = p := rn_no (fun z => c (of_decide_eq_true z))
      rw [b2_f c, if_pos (show (0 : Int32) = 0 from rfl)]
      exact fin _ rfl er
end TXT
