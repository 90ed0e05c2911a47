/-! THE CLAIM OUT OF ONE WALK OF THE LAW'S BODY. Your part is whole_start (and what it stands on); all else here is the same for every law, but numbers. -/
def R_law : String := "CoverOrderLaw"
def lw_P (b : Addr) (xs : List Int32) (args : Array Value) (s : State) : Prop := args = #[.ref b] ∧ s.IntsAt b xs ∧ xs.length ≤ 2560 ∧ (Jvm.Cond.and given_1 narrow_1).before args s = true
def lw_Q (_ : Array Value) (s : State) (o : Outcome) (t : State) : Prop := o = .returned (some (.int 1)) ∧ Framed s o t [] 600000 7302250
def lw_Z (below : List Frame) (a : Array Value) (s : State) : State → Prop := fun t => ∃ o, t.status = .running ∧ Ended t below o ∧ lw_Q a s o t
/-- the law's own end, with 1 on the stack, nothing written that was there before, its room as the claim has it -/
theorem lw_ret {p : Program} {l : Launch} {e : Env} {s : State} {m : MethodId} {below : List Frame} {meth : Method} {c : Code} {b : Nat} (hx : p.tables.exec = Jvm.exec) (hb : c.code = code) (hr : meth.sig.returnType = ret) (hlocks : meth.locks = false) {pc : Nat} {H : Heap} {ls : Array Slot} (hdg : decode code pc = .ok (.ireturn, 1)) : W p l e room_1 s m #[Value.ref b] below meth c H [] 600000 7302250 (lw_Z below #[Value.ref b] s) (F0 m pc ls [.int 1]) := by
  intro T hT X
  obtain ⟨fs, hret, hrun, hended, hW, hframe⟩ := X.leave (v := some (.int 1)) (hlocks := hlocks) (fun h => by rw [hr] at h; cases h)
  have hmeth' : T.vm.method? m = some meth := X.method'
  refine ⟨T.setFrames fs, ?_, .returned (some (.int 1)), hrun, hended, rfl, ⟨_, rfl⟩, hW, hframe⟩
  jvm_step X.here [X.here.top, hx, hb, hdg, hmeth', hr, ret, narrow_b1]
  (try refine ⟨rfl, ?_⟩); (try refine ⟨rfl, ?_⟩)
  first | (intro acts; rw [hret _ acts rfl rfl rfl]) | rw [hret _ _ rfl rfl rfl]
  exact Steps.refl _
/-- what holds at the law's entry: the machine, the code, the tables' words (any of lw_tbl by 'hts w (by decide +kernel)'), the script of L ints xs at the cell b, what the Statement gives of the start (any of its parts by flat_of_before) -/
def lw_At (p : Program) (s : State) (m : MethodId) (meth : Method) (c : Code) (b L : Nat) (xs : Nat → Int32) : Prop :=
  p.tables.exec = Jvm.exec ∧ c.code = code ∧ meth.sig.returnType = ret ∧ c.maxLocals = 4 ∧ s.vm.findClass R_law = some m.cls ∧ (∀ w ∈ lw_tbl, w.before #[Value.ref b] s = true) ∧ va_X b L xs s s.heap ∧ b < s.heap.size ∧ meth.locks = false ∧ (Jvm.Cond.and given_1 narrow_1).before #[Value.ref b] s = true
/-! the law's entry: what the machine knows -/
theorem law_K {args : Array Value} {s : State} (hts : ∀ w ∈ lw_tbl, w.before args s = true) : ∃ (G : va_G) (cI cZ cE : ClassId), va_K G vwCl (kTY cI cZ cE) s := by
  obtain ⟨c0, i0, h0⟩ := u_known (C := RX0) (T := TX0) (N := 2) (n := 2) hts wiX0 (hts _ (by decide +kernel))
  obtain ⟨c1, i1, h1⟩ := u_known (C := RX2) (T := TX2) (N := 4) (n := 4) hts wiX2 (hts _ (by decide +kernel))
  obtain ⟨c2, i2, h2⟩ := u_known (C := RX3) (T := TX3) (N := 3) (n := 3) hts wiX3 (hts _ (by decide +kernel))
  obtain ⟨c3, i3, h3⟩ := u_known (C := RX6) (T := TX6) (N := 2) (n := 2) hts wiX6 (hts _ (by decide +kernel))
  obtain ⟨c4, i4, h4⟩ := u_known (C := RX7) (T := TX7) (N := 2) (n := 2) hts wiX7 (hts _ (by decide +kernel))
  obtain ⟨c5, i5, h5⟩ := u_known (C := RX8) (T := TX8) (N := 1) (n := 1) hts wiX8 (hts _ (by decide +kernel))
  obtain ⟨c6, i6, h6⟩ := u_known (C := RX9) (T := TX9) (N := 3) (n := 3) hts wiX9 (hts _ (by decide +kernel))
  obtain ⟨c7, i7, h7⟩ := u_known (C := RX10) (T := TX10) (N := 13) (n := 13) hts wiX10 (hts _ (by decide +kernel))
  obtain ⟨c8, i8, h8⟩ := u_known (C := RX11) (T := TX11) (N := 22) (n := 22) hts wiX11 (hts _ (by decide +kernel))
  obtain ⟨cI, kI, mI, a1, a2, a3⟩ := Cond.arrayClass_spec (hts (.arrayClass .int) (by decide +kernel))
  obtain ⟨cZ, kZ, mZ, b1, b2, b3⟩ := Cond.arrayClass_spec (hts (.arrayClass .boolean) (by decide +kernel))
  obtain ⟨comp, cE, kE, e1, e2, e3, e4, e5⟩ := Cond.arrayOver_spec (n := RX3) (hts (.arrayOver (.object RX3)) (by decide +kernel))
  refine ⟨(fun k => match k with | 0 => c0 | 1 => c1 | 2 => c2 | 3 => c3 | 4 => c4 | 5 => c5 | 6 => c6 | 7 => c7 | _ => c8, fun k => match k with | 0 => i0 | 1 => i1 | 2 => i2 | 3 => i3 | 4 => i4 | 5 => i5 | 6 => i6 | 7 => i7 | _ => i8), cI, cZ, cE, ?_, ?_⟩
  · intro k q hq
    match k, hq with
    | 0, hq => cases hq; exact h0
    | 1, hq => cases hq; exact h1
    | 2, hq => cases hq; exact h2
    | 3, hq => cases hq; exact h3
    | 4, hq => cases hq; exact h4
    | 5, hq => cases hq; exact h5
    | 6, hq => cases hq; exact h6
    | 7, hq => cases hq; exact h7
    | 8, hq => cases hq; exact h8
    | k + 9, hq => cases hq
  · intro k q hq
    match k, hq with
    | 0, hq => cases hq; exact ⟨fun n z => ⟨fun k h => (by cases h), kI, a2, mI, a3⟩, a1⟩
    | 1, hq => cases hq; exact ⟨fun n z => ⟨fun k h => (by cases h), kZ, b2, mZ, b3⟩, b1⟩
    | 2, hq => cases hq; exact ⟨fun n z => ⟨fun k h => (by cases h), kE, e3, comp, e4⟩, kE, comp, e3, e4, e1, e5⟩
    | k + 3, hq => cases hq
theorem kNest_in : ∀ w ∈ kNest, w ∈ lw_tbl := by decide +kernel
theorem law_N {args : Array Value} {s : State} (hts : ∀ w ∈ lw_tbl, w.before args s = true) : kN s := ⟨fun w hw => va_Nw.of (kNest_tab w hw) (hts w (kNest_in w hw)), va_AO.of (hts (.arrayOver (.object RX3)) (by decide +kernel))⟩
theorem law_X {p : Program} {s : State} {m : MethodId} {meth : Method} {c : Code} {b L : Nat} {xs : Nat → Int32} (C0 : lw_At p s m meth c b L xs) : ∃ (G : va_G) (cI cZ cE : ClassId), kX p s m meth c cL_law 4 ret wsL_law RL G cI cZ cE #[Value.ref b] := by
  obtain ⟨hx, hb, hr, hml, hown, hts, hX, hbl, hlocks, hgv⟩ := C0
  obtain ⟨G, cI, cZ, cE, hK⟩ := law_K hts
  exact ⟨G, cI, cZ, cE, ⟨hx, hb, hml, hown, fun w hw => hts w (wiL_all w hw)⟩, hr, hlocks, hK, law_N hts⟩
