/-! THE CLAIM OUT OF ONE WALK OF THE LAW'S BODY. Your part is whole_start (and what it stands on); all else here is the same for every law, but numbers. -/
def R_law : String := "WatchedProgramsLaw"
def lw_P (b : Addr) (xs : List Int32) (args : Array Value) (s : State) : Prop := args = #[.ref b] ∧ s.IntsAt b xs ∧ xs.length ≤ 6 ∧ (Jvm.Cond.and given_1 narrow_1).before args s = true
def lw_Q (_ : Array Value) (s : State) (o : Outcome) (t : State) : Prop := o = .returned (some (.int 1)) ∧ Framed s o t [] 600000 7302250
def lw_Z (below : List Frame) (a : Array Value) (s : State) : State → Prop := fun t => ∃ o, t.status = .running ∧ Ended t below o ∧ lw_Q a s o t
/-- the law's own end, with 1 on the stack, nothing written that was there before, its room as the claim has it -/
theorem lw_ret {p : Program} {l : Launch} {e : Env} {s : State} {m : MethodId} {below : List Frame} {meth : Method} {c : Code} {b : Nat} (hx : p.tables.exec = Jvm.exec) (hb : c.code = code) (hr : meth.sig.returnType = ret) (hlocks : meth.locks = false) {pc : Nat} {H : Heap} {ls : Array Slot} (hdg : decode code pc = .ok (.ireturn, 1)) : W p l e room_1 s m #[Value.ref b] below meth c H [] 600000 7302250 (lw_Z below #[Value.ref b] s) (F0 m pc ls [.int 1]) := by
  intro T hT X
  obtain ⟨fs, hret, hrun, hended, hW, hframe⟩ := X.leave (v := some (.int 1)) (hlocks := hlocks) (fun h => by rw [hr] at h; cases h)
  have hmeth' : T.vm.method? m = some meth := X.method'
  refine ⟨T.setFrames fs, ?_, .returned (some (.int 1)), hrun, hended, rfl, ⟨_, rfl⟩, hW, hframe⟩
  jvm_step X.here [X.here.top, hx, hb, hdg, hmeth', hr, ret, narrow_b1]
  (try refine ⟨rfl, ?_⟩); (try refine ⟨rfl, ?_⟩)
  first | (intro acts; rw [hret _ acts rfl rfl rfl]) | rw [hret _ _ rfl rfl rfl]
  exact Steps.refl _
/-- what holds at the law's entry: the machine, the code, the tables' words (any of lw_tbl by 'hts w (by decide +kernel)'), the script of L ints xs at the cell b, what the Statement gives of the start (any of its parts by flat_of_before) -/
def lw_At (p : Program) (s : State) (m : MethodId) (meth : Method) (c : Code) (b L : Nat) (xs : Nat → Int32) : Prop :=
  p.tables.exec = Jvm.exec ∧ c.code = code ∧ meth.sig.returnType = ret ∧ c.maxLocals = 4 ∧ s.vm.findClass R_law = some m.cls ∧ (∀ w ∈ lw_tbl, w.before #[Value.ref b] s = true) ∧ va_X b L xs s s.heap ∧ b < s.heap.size ∧ meth.locks = false ∧ (Jvm.Cond.and given_1 narrow_1).before #[Value.ref b] s = true
set_option maxHeartbeats 4000000 in
set_option maxRecDepth 100000 in
theorem EV_start {s : State} {args : Array Value} (h : ∀ w ∈ lw_tbl, w.before args s = true) : ∃ (dC : Nat → ClassId) (dI : Nat → Nat → Nat) (cI cJ cS : ClassId), EV dC dI cI cJ cS s := by
  obtain ⟨c0, i0, hn0⟩ := u_known (C := RX0) (T := TX0) (N := 3) (n := 3) h inX0 (h (.instantiable RX0 3) (by decide +kernel))
  obtain ⟨c1, i1, hn1⟩ := u_known (C := RX1) (T := TX1) (N := 7) (n := 7) h inX1 (h (.instantiable RX1 7) (by decide +kernel))
  obtain ⟨c2, i2, hn2⟩ := u_known (C := RX2) (T := TX2) (N := 5) (n := 5) h inX2 (h (.instantiable RX2 5) (by decide +kernel))
  obtain ⟨c3, i3, hn3⟩ := u_known (C := RX3) (T := TX3) (N := 4) (n := 4) h inX3 (h (.instantiable RX3 4) (by decide +kernel))
  obtain ⟨c4, i4, hn4⟩ := u_known (C := RX4) (T := TX4) (N := 6) (n := 6) h inX4 (h (.instantiable RX4 6) (by decide +kernel))
  obtain ⟨c5, i5, hn5⟩ := u_known (C := RX5) (T := TX5) (N := 9) (n := 9) h inX5 (h (.instantiable RX5 9) (by decide +kernel))
  obtain ⟨c6, i6, hn6⟩ := u_known (C := RX6) (T := TX6) (N := 2) (n := 2) h inX6 (h (.instantiable RX6 2) (by decide +kernel))
  obtain ⟨c7, i7, hn7⟩ := u_known (C := RX7) (T := TX7) (N := 8) (n := 8) h inX7 (h (.instantiable RX7 8) (by decide +kernel))
  obtain ⟨c8, i8, hn8⟩ := u_known (C := RX8) (T := TX8) (N := 17) (n := 17) h inX8 (h (.instantiable RX8 17) (by decide +kernel))
  obtain ⟨c9, i9, hn9⟩ := u_known (C := RX9) (T := TX9) (N := 7) (n := 7) h inX9 (h (.instantiable RX9 7) (by decide +kernel))
  obtain ⟨c10, i10, hn10⟩ := u_known (C := RX10) (T := TX10) (N := 40) (n := 40) h inX10 (h (.instantiable RX10 40) (by decide +kernel))
  obtain ⟨dC, dI, hKc⟩ : ∃ (dC : Nat → ClassId) (dI : Nat → Nat → Nat), ∀ (k : Nat) (q : vw_C), vwCl[k]? = some q → u_Kn s q.1 q.2.1 q.2.2 (dC k) (dI k) := by
    refine ⟨fun k => [c0, c1, c2, c3, c4, c5, c6, c7, c8, c9, c10].getD k c0, fun k => [i0, i1, i2, i3, i4, i5, i6, i7, i8, i9, i10].getD k i0, ?_⟩
    intro k q hq
    match k, hq with
    | 0, hq => cases hq; exact hn0
    | 1, hq => cases hq; exact hn1
    | 2, hq => cases hq; exact hn2
    | 3, hq => cases hq; exact hn3
    | 4, hq => cases hq; exact hn4
    | 5, hq => cases hq; exact hn5
    | 6, hq => cases hq; exact hn6
    | 7, hq => cases hq; exact hn7
    | 8, hq => cases hq; exact hn8
    | 9, hq => cases hq; exact hn9
    | 10, hq => cases hq; exact hn10
    | k + 11, hq => simp [vwCl] at hq
  obtain ⟨cI, kI, pI, hI1, hI2, hI3⟩ := Cond.arrayClass_spec (h (.arrayClass .int) (by decide +kernel))
  obtain ⟨cJ, kJ, pJ, hJ1, hJ2, hJ3⟩ := Cond.arrayClass_spec (h (.arrayClass .long) (by decide +kernel))
  have hAO : va_AO "WatchedPrograms$Statement" s := va_AO.of (h (.arrayOver (.object "WatchedPrograms$Statement")) (by decide +kernel))
  obtain ⟨pS, cS, kS, hS1, -, hS2, hS3, hS4⟩ := Cond.arrayOver_spec hAO
  refine ⟨dC, dI, cI, cJ, cS, ⟨hKc, fun k q hq => ?_⟩, va_Nw.of rfl (h (.methodLinkNest RX9 15 yX6_init RX9) (by decide +kernel)), va_Nw.of rfl (h (.methodLinkNest RX9 22 yX3_init RX9) (by decide +kernel)), va_Nw.of rfl (h (.methodLinkNest RX3 11 yX7_init RX9) (by decide +kernel)), va_Nw.of rfl (h (.methodLinkNest RX4 21 yX5_init RX9) (by decide +kernel)), va_Nw.of rfl (h (.methodLinkNest RX9 29 yX2_init RX9) (by decide +kernel)), va_Nw.of rfl (h (.methodLinkNest RX9 36 yX8_init RX9) (by decide +kernel)), va_Nw.of rfl (h (.methodLinkNest RX8 13 yX2_init RX9) (by decide +kernel)), va_Nw.of rfl (h (.methodLinkNest RX8 20 yX1_init RX9) (by decide +kernel)), va_Nw.of rfl (h (.methodLinkNest RX9 43 yX0_init RX9) (by decide +kernel)), va_Nw.of rfl (h (.methodLinkNest RX8 72 yX9_numbersOf RX9) (by decide +kernel)), va_Nw.of rfl (h (.methodLinkNest RX8 160 yX9_isWithin RX9) (by decide +kernel)), va_Nw.of rfl (h (.methodLinkNest RX8 88 yX9_following RX9) (by decide +kernel)), va_Nw.of rfl (h (.methodLinkNest RX0 49 yX9_isWithin RX9) (by decide +kernel)), hAO⟩
  match k, hq with
  | 0, hq => cases hq; exact ⟨fun n z => ⟨fun k h => (by cases h), kI, hI2, pI, hI3⟩, hI1⟩
  | 1, hq => cases hq; exact ⟨fun n z => ⟨fun k h => (by cases h), kJ, hJ2, pJ, hJ3⟩, hJ1⟩
  | 2, hq => cases hq; exact ⟨fun n z => ⟨fun k h => (by cases h), kS, hS2, pS, hS3⟩, kS, pS, hS2, hS3, hS1, hS4⟩
  | k + 3, hq => simp [TY] at hq
