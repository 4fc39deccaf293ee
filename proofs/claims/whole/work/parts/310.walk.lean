/-! THE CLAIM OUT OF ONE WALK OF THE LAW'S BODY. Your part is whole_start (and what it stands on); all else here is the same for every law, but numbers. -/
def R_law : String := "SnakeLaddersLaw"
def lw_P (b : Addr) (xs : List Int32) (args : Array Value) (s : State) : Prop := args = #[.ref b] ∧ s.IntsAt b xs ∧ xs.length ≤ 2560 ∧ (Jvm.Cond.and given_1 narrow_1).before args s = true
def lw_Q (_ : Array Value) (s : State) (o : Outcome) (t : State) : Prop := o = .returned (some (.int 1)) ∧ Framed s o t [] 600000 7302250
def lw_Z (below : List Frame) (a : Array Value) (s : State) : State → Prop := fun t => ∃ o, t.status = .running ∧ Ended t below o ∧ lw_Q a s o t
/-- the law's own end, with 1 on the stack, nothing written that was there before, its room as the claim has it -/
theorem lw_ret {p : Program} {l : Launch} {e : Env} {s : State} {m : MethodId} {below : List Frame} {meth : Method} {c : Code} {b : Nat} (hx : p.tables.exec = Jvm.exec) (hb : c.code = code) (hr : meth.sig.returnType = ret) (hlocks : meth.locks = false) {pc : Nat} {H : Heap} {ls : Array Slot} (hdg : decode code pc = .ok (.ireturn, 1)) : W p l e room_1 s m #[Value.ref b] below meth c H [] 600000 7302250 (lw_Z below #[Value.ref b] s) (F0 m pc ls [.int 1]) := by
  intro T hT X
  obtain ⟨fs, hret, hrun, hended, hW, hframe⟩ := X.leave (v := some (.int 1)) (hlocks := hlocks) (fun h => by rw [hr] at h; cases h)
  have hmeth' : T.vm.method? m = some meth := X.method'
  refine ⟨T.setFrames fs, ?_, .returned (some (.int 1)), hrun, hended, rfl, ⟨_, rfl⟩, hW, hframe⟩
  jvm_step X.here [X.here.top, hx, hb, hdg, hmeth', hr, ret, narrow_b1]
  (try refine ⟨rfl, ?_⟩); (try refine ⟨rfl, ?_⟩)
  first | (intro acts; rw [hret _ acts rfl rfl rfl]) | rw [hret _ _ rfl rfl rfl]
  exact Steps.refl _
/-- what holds at the law's entry: the machine, the code, the tables' words (any of lw_tbl by 'hts w (by decide +kernel)'), the script of L ints xs at the cell b, what the Statement gives of the start (any of its parts by flat_of_before) -/
def lw_At (p : Program) (s : State) (m : MethodId) (meth : Method) (c : Code) (b L : Nat) (xs : Nat → Int32) : Prop :=
  p.tables.exec = Jvm.exec ∧ c.code = code ∧ meth.sig.returnType = ret ∧ c.maxLocals = 4 ∧ s.vm.findClass R_law = some m.cls ∧ (∀ w ∈ lw_tbl, w.before #[Value.ref b] s = true) ∧ va_X b L xs s s.heap ∧ b < s.heap.size ∧ meth.locks = false ∧ (Jvm.Cond.and given_1 narrow_1).before #[Value.ref b] s = true
def gx_h0 : gx_H := (0, fun _ => gx_junk)
set_option maxRecDepth 100000 in
set_option maxHeartbeats 4000000 in
theorem gx_whole {p : Program} {e : Env} {s : State} {m : MethodId} {below : List Frame} {meth : Method} {c : Code} (l : Launch) {b L : Nat} {xs : Nat → Int32} (C0 : lw_At p s m meth c b L xs)
    (hlaw : ∀ E : gx_Env, E.2.2.2.2.2 = (L, xs) → ∃ h' : gx_H, fL_law E gx_h0 = some (1, h')) : W p l e room_1 s m #[Value.ref b] below meth c s.heap [] 0 0 (lw_Z below #[Value.ref b] s) (entryFrame m ([Value.ref b] : List Value).toArray 4) := by
  obtain ⟨hx, hb, hr, hml, hown, hts, hX, hbl, hlocks, hgv⟩ := id C0
  obtain ⟨E, rfl, eb, e11, eS, hok⟩ := gx_env l hts hX hbl hgv
  obtain ⟨h', ho⟩ := hlaw E eS
  have F : gx_F E RL cL_law 4 (0 + 15) false p room_1 s m #[Value.ref b] meth c := ⟨hx, hb, hml, hown, fun w hw => hts w (gx_sub_tbl w hw), hok, ⟨by decide, by decide⟩, (fun q => by cases q), Nat.le_of_eq eb⟩
  have hR : gx_R E cL_law (some .boolean) p e room_1 s m #[Value.ref b] below meth c (lw_Z below #[Value.ref b] s) (some (.int 1)) h' := by
    intro H locs cells slots pc ls hP hS hc hs hret
    refine va_forget (fun q hq => by have := hS.2.2 q hq; unfold gx_A at this; rw [eb] at this; exact this) ?_
    refine W.widen (k := 600000) (n := 7302250) hc hs ?_
    exact lw_ret hx hb hr hlocks hret.1
  have hP0 : gx_P E gx_h0 s.heap := ⟨by rw [eb]; rfl, fun k hk => absurd hk (Nat.not_lt_zero k), fun k _ => rfl⟩
  have hE := gx_entry (nL := 4) F.fm [.retAddr 11] (by decide)
  have ev : ([.retAddr 11] : List Value).map (gx_v E) = [Value.ref b] := by
    rw [List.map_cons, gx_kref (by decide), e11]; rfl
  rw [ev] at hE
  rw [lg_entry_eq]
  exact geL_law (d := 0) gx_h0 1 h' ho p e room_1 s m #[Value.ref b] below meth c _ F hR s.heap [] 0 0 _ hP0 va_S.rf (by decide) (by decide) hE
