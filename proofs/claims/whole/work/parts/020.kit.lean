/-! own kit: bundled contracts over fixed worlds, one rule a call, one rule an end -/
def bI : Bool → Int32 | true => 1 | false => 0
theorem kb0 {b : Bool} (h : bI b = 0) : ¬ b = true := by cases b with | true => exact absurd h (by decide) | false => decide
theorem kb1 {b : Bool} (h : ¬ bI b = 0) : b = true := by cases b with | true => rfl | false => exact absurd rfl h
theorem kbn (b : Bool) : narrow .boolean (.int (bI b)) = .int (bI b) := by cases b <;> rfl
theorem kbv (b : Bool) : vp_nar .boolean (bI b) = bI b := by cases b <;> rfl
def kin (i : Int32) (n : Nat) : Bool := decide (0 ≤ i.toInt) && decide (i.toInt < n)
theorem kin_ok {i : Int32} {n : Nat} (h : kin i n = true) : vp_in i n := by
  simp only [kin, Bool.and_eq_true, decide_eq_true_eq] at h
  exact vp_in_iff.mpr h
theorem kin_path {i : Int32} {n : Nat} (h0 : ¬ i < 0) (h : i < Int32.ofNat n) : vp_in i n := by
  rw [Int32.lt_iff_toInt_lt, Int32.toInt_zero] at h0
  rw [Int32.lt_iff_toInt_lt] at h
  refine vp_in_iff.mpr ⟨by omega, ?_⟩
  by_cases hn : n < 2 ^ 31
  · have e : (Int32.ofNat n).toInt = (n : Int) := nI_toInt hn
    omega
  · have := i.toInt_lt
    omega
theorem kin_path2 {i : Int32} {n : Nat} (h0 : ¬ i < 0) (h : ¬ Int32.ofNat n ≤ i) : vp_in i n := kin_path h0 (by
  rw [Int32.le_iff_toInt_le] at h
  rw [Int32.lt_iff_toInt_lt]
  omega)
def gd {α : Type} (b : Bool) (x : Option α) : Option α := if b = true then x else none
theorem gd_some {α : Type} {b : Bool} {x : Option α} {r : α} (h : gd b x = some r) : b = true ∧ x = some r := by
  unfold gd at h
  by_cases hb : b = true
  · rw [if_pos hb] at h; exact ⟨hb, h⟩
  · rw [if_neg hb] at h; cases h
def kne (x : Int32) : Bool := decide (¬ x = 0)
theorem kne_ok {x : Int32} (h : kne x = true) : ¬ x = 0 := by simpa [kne] using h
def kneL (x : Int64) : Bool := decide (¬ x = 0)
theorem kneL_ok {x : Int64} (h : kneL x = true) : ¬ x = 0 := by simpa [kneL] using h
def kFU : Nat := 100000000
theorem kbind {α β : Type} {x : Option α} {f : α → Option β} {r : β} (h : x.bind f = some r) : ∃ a, x = some a ∧ f a = some r := by
  cases x with
  | none => cases h
  | some a => exact ⟨a, rfl, h⟩
def kS2 (a b : Nat) : Nat → Option Nat := fun j => if j = 0 then some a else if j = 1 then some b else none
theorem kS2_made (a b : Nat) : va_up (va_up (fun _ => none) 0 (some a)) 1 (some b) = kS2 a b := by
  funext j
  simp only [va_up, kS2]
  by_cases h0 : j = 0
  · subst h0; simp
  · by_cases h1 : j = 1
    · subst h1; simp
    · simp [h0, h1]
def mmaxI (x y : Int32) : Int32 := if x < y then y else x
def mminI (x y : Int32) : Int32 := if y < x then y else x
abbrev kTY (cI cZ cE : ClassId) : List (ClassId × FieldType) := [(cI, .int), (cZ, .boolean), (cE, .object RX3)]
def kNest : List Cond := [.fieldLinkNest RX10 233 RX3 "knots" "I" RX10, .fieldLinkNest RX10 294 RX3 "nextStamp" "I" RX10, .fieldLinkNest RX7 42 RX2 "reached" "I" RX10, .fieldLinkNest RX10 303 RX2 "reached" "I" RX10, .methodLinkNest RX10 9 yX8_init RX10, .methodLinkNest RX10 18 yX3_init RX10, .methodLinkNest RX10 28 yX0_init RX10, .methodLinkNest RX10 48 yX2_init RX10, .methodLinkNest RX10 58 yX9_init RX10, .methodLinkNest RX10 65 yX7_init RX10]
def kN (U : State) : Prop := (∀ w ∈ kNest, va_Nw w U) ∧ va_AO RX3 U
theorem kNest_tab : ∀ w ∈ kNest, w.onTables = true := by decide +kernel
theorem kN.same {u U : State} (h : u.vm = U.vm) (hn : kN u) : kN U := ⟨fun w hw => va_Nw.same (kNest_tab w hw) h (hn.1 w hw), va_AO.moved (by rw [h]; exact Vm.Alike.refl _) hn.2⟩
theorem kN.warm {s U : State} (hW : s.WarmedH U.vm) (h : kN s) : kN U := by
  have h0 : ∀ a i b n d o, Cond.fieldLinkNest a i b n d o ∈ kNest → va_Nw (Cond.fieldLinkNest a i b n d o) U := fun a i b n d o hm => va_Nw.warmF hW (h.1 _ hm)
  have h1 : ∀ a i x o, Cond.methodLinkNest a i x o ∈ kNest → va_Nw (Cond.methodLinkNest a i x o) U := fun a i x o hm => va_Nw.warmM hW (h.1 _ hm)
  refine ⟨?_, va_AO.moved hW.alike h.2⟩
  intro w hw
  have hw' := hw
  simp only [kNest, List.mem_cons, List.not_mem_nil, or_false] at hw
  rcases hw with rfl | rfl | rfl | rfl | rfl | rfl | rfl | rfl | rfl | rfl
  · exact h0 _ _ _ _ _ _ hw'
  · exact h0 _ _ _ _ _ _ hw'
  · exact h0 _ _ _ _ _ _ hw'
  · exact h0 _ _ _ _ _ _ hw'
  · exact h1 _ _ _ _ hw'
  · exact h1 _ _ _ _ hw'
  · exact h1 _ _ _ _ hw'
  · exact h1 _ _ _ _ hw'
  · exact h1 _ _ _ _ hw'
  · exact h1 _ _ _ _ hw'
def kPre (G : va_G) (cI cZ cE : ClassId) (ws : va_W) (sz : Nat) (U : State) : Prop := U.heap.size = sz ∧ va_P G vwCl ws U.heap ∧ va_K G vwCl (kTY cI cZ cE) U ∧ va_D (fun _ => True) ws ∧ kN U
theorem kBlind {G : va_G} {cI cZ cE : ClassId} {ws : va_W} {sz : Nat} {av : List Value} : FrameBlind (va_Pc av (kPre G cI cZ cE ws sz)) := fun a U g mk q => by
  obtain ⟨q0, q1, qP, qK, qD, qN⟩ := q
  exact ⟨q0, q1, qP, va_K.moved (u := U) (U := U.calling g mk a) (Vm.Alike.refl U.vm) qK, qD, kN.same (u := U) (U := U.calling g mk a) rfl qN⟩
def kPost (G : va_G) (ws ws' : va_W) (sz : Nat) (res : Option Value) : Array Value → State → Outcome → State → Prop := fun _ st oc t => (oc = .returned res ∧ va_P G vwCl ws' t.heap ∧ va_D (va_A ws sz) ws') ∧ va_F (va_A ws sz) st t
/-- a contract: from the cells ws at the arguments av the method returns res, the cells are ws', nothing else changed, nothing made -/
def kM (l : Launch) (y : MethodName) (Ts : List Cond) (rm : Room) (G : va_G) (cI cZ cE : ClassId) (av : List Value) (ws ws' : va_W) (res : Option Value) : Prop :=
  ∀ sz : Nat, Met l y Ts rm (va_Pc av (kPre G cI cZ cE ws sz)) (kPost G ws ws' sz res) 0 0 (va_A ws sz)
def kQ (below : List Frame) (G : va_G) (ws' : va_W) (res : Option Value) (A : Nat → Prop) (args : Array Value) (s : State) : State → Prop :=
  MQ below (fun _ st oc t => (oc = .returned res ∧ va_P G vwCl ws' t.heap ∧ va_D A ws') ∧ va_F A st t) args s 0 0 A
def kX (p : Program) (s : State) (m : MethodId) (meth : Method) (c : Code) (cc : ByteArray) (nL : Nat) (ret : Option FieldType) (Ts : List Cond) (own : String) (G : va_G) (cI cZ cE : ClassId) (args : Array Value) : Prop :=
  CallFix p m c cc nL s args Ts own ∧ meth.sig.returnType = ret ∧ meth.locks = false ∧ va_K G vwCl (kTY cI cZ cE) s ∧ kN s
theorem kM_of {l : Launch} {y : MethodName} {Ts Ts' : List Cond} {rm : Room} {G : va_G} {cI cZ cE : ClassId} {av : List Value} {ws ws' : va_W} {res : Option Value} (cc : ByteArray) (nL : Nat) (ret : Option FieldType) (own : String)
    (hy : plainName y.cls = true) (hown : y.cls = own) (hw : Ts = Cond.code y cc nL ret :: Ts') (hav : (lg_sl av).length ≤ nL)
    (body : ∀ (p : Program) (e : Env) (s : State) (m : MethodId) (below : List Frame) (meth : Method) (c : Code) (A : Nat → Prop) (ls : Array Slot), kX p s m meth c cc nL ret Ts own G cI cZ cE av.toArray → (∀ q, s.heap.size ≤ q → A q) → va_P G vwCl ws s.heap → va_D A ws → va_S A s.heap s.heap [] → lv_has ls nL (lv_args 0 av) →
      W p l e rm s m av.toArray below meth c s.heap [] 0 0 (kQ below G ws' res A av.toArray s) (F0 m 0 ls [])) : kM l y Ts rm G cI cZ cE av ws ws' res := by
  intro sz
  refine Met.ofW (cc := cc) (maxL := nL) (ret := ret) hy hw ?_
  intro p e s m args below meth c s₁ B hml hv
  obtain ⟨rfl, hsz, hP, hK, hD0, hN⟩ := hv
  subst hsz
  rw [lg_entry_eq]
  exact body p e s m below meth c (va_A ws s.heap.size) _ ⟨⟨B.exec, B.bytes, hml, hown ▸ findClass_of_methodNamed B.named, atoms_spec (ws := Ts) B.pre⟩, B.returns, B.notSynchronized, hK, hN⟩ (fun q h => Or.inr h) hP hD0.self va_S.rf (lv_entry av hav)
def kput : va_W → List Nat → va_W → va_W
  | ws, i :: is, c :: cs => kput (ws.set i c) is cs
  | ws, _, _ => ws
theorem kput_get : ∀ (is : List Nat) (cs ws : va_W), is.length = cs.length → va_nd is = true → ∀ (k : Nat) (q : Nat × va_E), (kput ws is cs)[k]? = some q → (∃ j : Nat, is[j]? = some k ∧ cs[j]? = some q) ∨ (k ∉ is ∧ ws[k]? = some q) := by
  intro is
  induction is with
  | nil => intro cs ws _ _ k q h; exact Or.inr ⟨List.not_mem_nil, by cases cs <;> exact h⟩
  | cons i is ih =>
    intro cs ws hl hn k q h
    cases cs with
    | nil => simp at hl
    | cons c cs =>
      simp only [va_nd, Bool.and_eq_true, decide_eq_true_eq] at hn
      rcases ih cs (ws.set i c) (by simpa using hl) hn.2 k q h with ⟨j, h1, h2⟩ | ⟨h1, h2⟩
      · exact Or.inl ⟨j + 1, by simpa using h1, by simpa using h2⟩
      · by_cases hk : i = k
        · subst hk
          refine Or.inl ⟨0, rfl, ?_⟩
          rw [List.getElem?_set] at h2
          by_cases hb : i < ws.length
          · simpa [hb] using h2
          · simp [hb] at h2
        · refine Or.inr ⟨fun hm => ?_, ?_⟩
          · rcases List.mem_cons.mp hm with e | e
            · exact hk e.symm
            · exact h1 e
          · rw [List.getElem?_set, if_neg hk] at h2; exact h2
theorem k_at {is : List Nat} {ws w : va_W} (hs : is.map (fun i => ws[i]?) = w.map some) {k : Nat} {q : Nat × va_E} (hq : w[k]? = some q) : ∃ i, is[k]? = some i ∧ ws[i]? = some q := by
  have h1 : (is.map (fun i => ws[i]?))[k]? = some (some q) := by rw [hs, List.getElem?_map, hq]; rfl
  rw [List.getElem?_map] at h1
  cases hi : is[k]? with
  | none => rw [hi] at h1; cases h1
  | some i => rw [hi] at h1; exact ⟨i, rfl, Option.some.inj h1⟩
theorem k_len {is : List Nat} {ws w : va_W} (hs : is.map (fun i => ws[i]?) = w.map some) : is.length = w.length := by
  have := congrArg List.length hs
  simpa using this
theorem k_cut {G : va_G} {ws w : va_W} {H : Heap} (hP : va_P G vwCl ws H) {is : List Nat} (hs : is.map (fun i => ws[i]?) = w.map some) : va_P G vwCl w H := by
  intro k q hq
  obtain ⟨i, -, h⟩ := k_at hs hq
  exact hP i q h
theorem k_same {A : Nat → Prop} {G : va_G} {ws wc : va_W} {H H1 : Heap} (hP : va_P G vwCl ws H) (hD : va_D A ws) (isC : List Nat) (hC : isC.map (fun i => ws[i]?) = wc.map some)
    (hk : ∀ q : Nat, q < H.size → ¬ va_A wc H.size q → H1[q]? = H[q]?) {k : Nat} {q : Nat × va_E} (hn : k ∉ isC) (hq : ws[k]? = some q) : va_at G vwCl q H1 := by
  have hl := (hP k q hq).lt
  refine (hP k q hq).kept (hk q.1 hl fun h => ?_)
  rcases h with ⟨j, e, h⟩ | h
  · obtain ⟨i, h1, h2⟩ := k_at hC h
    have hij := hD.1 i k (q.1, e) q h2 hq rfl
    subst hij
    exact hn (List.mem_of_getElem? h1)
  · omega
theorem kjoin {A : Nat → Prop} {G : va_G} {ws wc wc' : va_W} {H H1 : Heap} (hP : va_P G vwCl ws H) (hD : va_D A ws) (isC : List Nat) (hC : isC.map (fun i => ws[i]?) = wc.map some) (hn : va_nd isC = true) (hadr : wc'.map (fun q => q.1) = wc.map (fun q => q.1))
    (hk : ∀ q : Nat, q < H.size → ¬ va_A wc H.size q → H1[q]? = H[q]?) (hP1 : va_P G vwCl wc' H1) : va_P G vwCl (kput ws isC wc') H1 ∧ va_D A (kput ws isC wc') := by
  have hlen : isC.length = wc'.length := by
    have h1 := congrArg List.length hadr
    rw [k_len hC]
    simpa using h1.symm
  have key : ∀ (k : Nat) (q : Nat × va_E), (kput ws isC wc')[k]? = some q → ∃ q0, ws[k]? = some q0 ∧ q0.1 = q.1 := by
    intro k q h
    rcases kput_get isC wc' ws hlen hn k q h with ⟨j, h1, h2⟩ | ⟨-, h2⟩
    · have h3 : (wc'.map (fun q => q.1))[j]? = some q.1 := by rw [List.getElem?_map, h2]; rfl
      rw [hadr, List.getElem?_map] at h3
      cases h4 : wc[j]? with
      | none => rw [h4] at h3; cases h3
      | some q0 =>
        rw [h4] at h3
        obtain ⟨i, h5, h6⟩ := k_at hC h4
        rw [h1] at h5
        cases h5
        exact ⟨q0, h6, Option.some.inj h3⟩
    · exact ⟨q, h2, rfl⟩
  refine ⟨fun k q h => ?_, fun i j x y hx hy hxy => ?_, fun k q h => ?_⟩
  · rcases kput_get isC wc' ws hlen hn k q h with ⟨j, -, h2⟩ | ⟨h1, h2⟩
    · exact hP1 j q h2
    · exact k_same hP hD isC hC hk h1 h2
  · obtain ⟨x0, a1, a2⟩ := key i x hx
    obtain ⟨y0, b1, b2⟩ := key j y hy
    exact hD.1 i j x0 y0 a1 b1 (by rw [a2, b2, hxy])
  · obtain ⟨q0, a1, a2⟩ := key k q h
    rw [← a2]
    exact hD.2 k q0 a1
theorem kjoin0 {A : Nat → Prop} {G : va_G} {ws wc : va_W} {H H1 : Heap} (hP : va_P G vwCl ws H) (hD : va_D A ws) (isC : List Nat) (hC : isC.map (fun i => ws[i]?) = wc.map some)
    (hk : ∀ q : Nat, q < H.size → ¬ va_A wc H.size q → H1[q]? = H[q]?) (hP1 : va_P G vwCl wc H1) : va_P G vwCl ws H1 := by
  intro k q h
  by_cases hm : k ∈ isC
  · obtain ⟨j, hj⟩ := List.getElem?_of_mem hm
    have h1 : (isC.map (fun i => ws[i]?))[j]? = some (some q) := by rw [List.getElem?_map, hj]; exact congrArg some h
    rw [hC, List.getElem?_map] at h1
    cases h4 : wc[j]? with
    | none => rw [h4] at h1; cases h1
    | some q0 =>
      rw [h4] at h1
      have e : q0 = q := Option.some.inj (Option.some.inj h1)
      subst e
      exact hP1 j q0 h4
  · exact k_same hP hD isC hC hk hm h
section KC
variable {p : Program} {l : Launch} {e : Env} {R : Room} {s : State} {m : MethodId} {args : Array Value} {below : List Frame} {meth : Method} {c : Code} {H : Heap} {locs : List Loc} {cells slots : Nat} {Q : State → Prop}
variable {pc : Nat} {ls : Array Slot} {rest st0 st1 : List Value} {a : Array Value} {A : Nat → Prop} {H0 : Heap} {G : va_G} {cI cZ cE : ClassId} {ws wc wc' ws1 ws' : va_W} {res : Option Value}
theorem kcall (hr : va_Run p l e R s m args below meth c H locs cells slots 0 0 (F0 m pc ls st0) rest (kPost G wc wc' H.size res a) (va_A wc H.size)) (hP : va_P G vwCl ws H) (hD : va_D A ws) (hS : va_S A H0 H locs) (hA : ∀ q, H0.size ≤ q → A q)
    (isC : List Nat) (hC : isC.map (fun i => ws[i]?) = wc.map some) (hn : va_nd isC = true) (hadr : wc'.map (fun q => q.1) = wc.map (fun q => q.1)) (hw1 : kput ws isC wc' = ws1) (hst : res.toList ++ rest = st1)
    (kk : ∀ (H1 : Heap) (locs1 : List Loc), va_P G vwCl ws1 H1 → va_D A ws1 → va_S A H0 H1 locs1 → W p l e R s m args below meth c H1 locs1 cells slots Q (F0 m (pc + 3) ls st1)) : W p l e R s m args below meth c H locs cells slots Q (F0 m pc ls st0) := by
  intro T hT X
  obtain ⟨v, st₀, t, T', L, h0, X', hL, e1, e2, ⟨⟨hv, hp1, -⟩, hz, hk⟩, st⟩ := hr T hT X
  cases hv
  rw [h0] at hz hk
  have hF := va_free hD hS hA isC hC
  obtain ⟨hP', hD'⟩ := kjoin hP hD isC hC hn hadr hk hp1
  rw [hw1] at hP' hD'
  obtain ⟨t2, a1, b1⟩ := kk T'.heap (locs ++ L) (by rw [e1]; exact hP') hD'
    ⟨Nat.le_trans hS.1 (by rw [e1]; exact hz), fun q h1 h2 => by rw [e1, hk q (Nat.lt_of_lt_of_le h1 hS.1) (fun z => h2 (hF q z))]; exact hS.2.1 q h1 h2, fun q hq => by
      rcases List.mem_append.mp hq with h | h
      · exact hS.2.2 q h
      · exact hF _ (hL q h)⟩ T' rfl X'
  rw [← hst] at a1
  exact ⟨t2, st t2 a1, b1⟩
theorem kcall0 (hr : va_Run p l e R s m args below meth c H locs cells slots 0 0 (F0 m pc ls st0) rest (kPost G wc wc H.size res a) (va_A wc H.size)) (hP : va_P G vwCl ws H) (hD : va_D A ws) (hS : va_S A H0 H locs) (hA : ∀ q, H0.size ≤ q → A q)
    (isC : List Nat) (hC : isC.map (fun i => ws[i]?) = wc.map some) (hst : res.toList ++ rest = st1)
    (kk : ∀ (H1 : Heap) (locs1 : List Loc), va_P G vwCl ws H1 → va_D A ws → va_S A H0 H1 locs1 → W p l e R s m args below meth c H1 locs1 cells slots Q (F0 m (pc + 3) ls st1)) : W p l e R s m args below meth c H locs cells slots Q (F0 m pc ls st0) := by
  intro T hT X
  obtain ⟨v, st₀, t, T', L, h0, X', hL, e1, e2, ⟨⟨hv, hp1, -⟩, hz, hk⟩, st⟩ := hr T hT X
  cases hv
  rw [h0] at hz hk
  have hF := va_free hD hS hA isC hC
  have hP' := kjoin0 hP hD isC hC hk hp1
  obtain ⟨t2, a1, b1⟩ := kk T'.heap (locs ++ L) (by rw [e1]; exact hP') hD
    ⟨Nat.le_trans hS.1 (by rw [e1]; exact hz), fun q h1 h2 => by rw [e1, hk q (Nat.lt_of_lt_of_le h1 hS.1) (fun z => h2 (hF q z))]; exact hS.2.1 q h1 h2, fun q hq => by
      rcases List.mem_append.mp hq with h | h
      · exact hS.2.2 q h
      · exact hF _ (hL q h)⟩ T' rfl X'
  rw [← hst] at a1
  exact ⟨t2, st t2 a1, b1⟩
variable {cc bytes : ByteArray} {nL maxL n index : Nat} {ret ret' : Option FieldType} {Ts wsY : List Cond} {own C : String} {y : MethodName} {rm : Room} {b : Nat} {As : List Value}
theorem kpre (hK : va_K G vwCl (kTY cI cZ cE) s) (hN : kN s) (hP : va_P G vwCl ws H) (hD : va_D A ws) {isC : List Nat} (hC : isC.map (fun i => ws[i]?) = wc.map some) (hn : va_nd isC = true) : ∀ U : State, U.heap = H → s.WarmedH U.vm → kPre G cI cZ cE wc H.size U :=
  fun U hU hW => ⟨by rw [hU], by rw [hU]; exact k_cut hP hC, va_K.moved hW.alike hK, (hD.sub isC hn hC).weaken (fun _ _ _ _ => trivial), kN.warm hW hN⟩
/-- a virtual call that may write -/
theorem kcV (X : kX p s m meth c cc nL ret Ts own G cI cZ cE args) (hA : ∀ q, H0.size ≤ q → A q) (hM : kM l y wsY rm G cI cZ cE (.ref b :: As) wc wc' res) (cw : CallW R s args own C index y bytes maxL ret' wsY rm 0 0 n)
    (q0 ci : Nat) {fs : List Value} {T : u_T} {N : Nat} (he : ws[q0]? = some (b, .inr (ci, fs))) (hci : vwCl[ci]? = some (C, T, N)) (hsize : ls.size = nL) (hdg : decode cc pc = .ok (.invokevirtual index, 3)) (hP : va_P G vwCl ws H) (hD : va_D A ws) (hS : va_S A H0 H locs)
    (isC : List Nat) (hC : isC.map (fun i => ws[i]?) = wc.map some) (hn : va_nd isC = true) (hadr : wc'.map (fun q => q.1) = wc.map (fun q => q.1)) (hw1 : kput ws isC wc' = ws1) (hna : As.length = n) (rest : List Value) (hst0 : st0 = As.reverse ++ .ref b :: rest) (hW : (rest.map fun v => v.category).sum ≤ 8) (hst : res.toList ++ rest = st1) (hcs : cells ≤ R.cells ∧ slots ≤ R.slots)
    (kk : ∀ (H1 : Heap) (locs1 : List Loc), va_P G vwCl ws1 H1 → va_D A ws1 → va_S A H0 H1 locs1 → W p l e R s m args below meth c H1 locs1 cells slots Q (F0 m (pc + 3) ls st1)) : W p l e R s m args below meth c H locs cells slots Q (F0 m pc ls st0) :=
  kcall (va_runV (As := As) (rest := rest) X.1 (hM H.size) cw ⟨kBlind, va_recv X.2.2.2.1 hP hci he, fun U hU hWm => ⟨rfl, kpre X.2.2.2.1 X.2.2.2.2 hP hD hC hn U hU hWm⟩⟩ rfl hna hsize hst0 (lv_room hW) hdg hcs) hP hD hS hA isC hC hn hadr hw1 hst kk
/-- a virtual call that writes nothing -/
theorem kcV0 (X : kX p s m meth c cc nL ret Ts own G cI cZ cE args) (hA : ∀ q, H0.size ≤ q → A q) (hM : kM l y wsY rm G cI cZ cE (.ref b :: As) wc wc res) (cw : CallW R s args own C index y bytes maxL ret' wsY rm 0 0 n)
    (q0 ci : Nat) {fs : List Value} {T : u_T} {N : Nat} (he : ws[q0]? = some (b, .inr (ci, fs))) (hci : vwCl[ci]? = some (C, T, N)) (hsize : ls.size = nL) (hdg : decode cc pc = .ok (.invokevirtual index, 3)) (hP : va_P G vwCl ws H) (hD : va_D A ws) (hS : va_S A H0 H locs)
    (isC : List Nat) (hC : isC.map (fun i => ws[i]?) = wc.map some) (hn : va_nd isC = true) (hna : As.length = n) (rest : List Value) (hst0 : st0 = As.reverse ++ .ref b :: rest) (hW : (rest.map fun v => v.category).sum ≤ 8) (hst : res.toList ++ rest = st1) (hcs : cells ≤ R.cells ∧ slots ≤ R.slots)
    (kk : ∀ (H1 : Heap) (locs1 : List Loc), va_P G vwCl ws H1 → va_D A ws → va_S A H0 H1 locs1 → W p l e R s m args below meth c H1 locs1 cells slots Q (F0 m (pc + 3) ls st1)) : W p l e R s m args below meth c H locs cells slots Q (F0 m pc ls st0) :=
  kcall0 (va_runV (As := As) (rest := rest) X.1 (hM H.size) cw ⟨kBlind, va_recv X.2.2.2.1 hP hci he, fun U hU hWm => ⟨rfl, kpre X.2.2.2.1 X.2.2.2.2 hP hD hC hn U hU hWm⟩⟩ rfl hna hsize hst0 (lv_room hW) hdg hcs) hP hD hS hA isC hC hst kk
/-- a static call that may write -/
theorem kcS (X : kX p s m meth c cc nL ret Ts own G cI cZ cE args) (hA : ∀ q, H0.size ≤ q → A q) (hM : kM l y wsY rm G cI cZ cE As wc wc' res) (cw : CallB R s args own index y bytes maxL ret' wsY rm 0 0 n ∧ (Cond.static y).before args s = true)
    (hsize : ls.size = nL) (hdg : decode cc pc = .ok (.invokestatic index, 3)) (hP : va_P G vwCl ws H) (hD : va_D A ws) (hS : va_S A H0 H locs)
    (isC : List Nat) (hC : isC.map (fun i => ws[i]?) = wc.map some) (hn : va_nd isC = true) (hadr : wc'.map (fun q => q.1) = wc.map (fun q => q.1)) (hw1 : kput ws isC wc' = ws1) (hna : As.length = n) (rest : List Value) (hst0 : st0 = As.reverse ++ rest) (hW : (rest.map fun v => v.category).sum ≤ 8) (hst : res.toList ++ rest = st1) (hcs : cells ≤ R.cells ∧ slots ≤ R.slots)
    (kk : ∀ (H1 : Heap) (locs1 : List Loc), va_P G vwCl ws1 H1 → va_D A ws1 → va_S A H0 H1 locs1 → W p l e R s m args below meth c H1 locs1 cells slots Q (F0 m (pc + 3) ls st1)) : W p l e R s m args below meth c H locs cells slots Q (F0 m pc ls st0) :=
  kcall (va_runS (As := As) (rest := rest) X.1 (hM H.size) cw ⟨kBlind, fun U hU hWm => ⟨rfl, kpre X.2.2.2.1 X.2.2.2.2 hP hD hC hn U hU hWm⟩⟩ rfl hna hsize hst0 (lv_room hW) hdg hcs) hP hD hS hA isC hC hn hadr hw1 hst kk
/-- a static call that writes nothing -/
theorem kcS0 (X : kX p s m meth c cc nL ret Ts own G cI cZ cE args) (hA : ∀ q, H0.size ≤ q → A q) (hM : kM l y wsY rm G cI cZ cE As wc wc res) (cw : CallB R s args own index y bytes maxL ret' wsY rm 0 0 n ∧ (Cond.static y).before args s = true)
    (hsize : ls.size = nL) (hdg : decode cc pc = .ok (.invokestatic index, 3)) (hP : va_P G vwCl ws H) (hD : va_D A ws) (hS : va_S A H0 H locs)
    (isC : List Nat) (hC : isC.map (fun i => ws[i]?) = wc.map some) (hn : va_nd isC = true) (hna : As.length = n) (rest : List Value) (hst0 : st0 = As.reverse ++ rest) (hW : (rest.map fun v => v.category).sum ≤ 8) (hst : res.toList ++ rest = st1) (hcs : cells ≤ R.cells ∧ slots ≤ R.slots)
    (kk : ∀ (H1 : Heap) (locs1 : List Loc), va_P G vwCl ws H1 → va_D A ws → va_S A H0 H1 locs1 → W p l e R s m args below meth c H1 locs1 cells slots Q (F0 m (pc + 3) ls st1)) : W p l e R s m args below meth c H locs cells slots Q (F0 m pc ls st0) :=
  kcall0 (va_runS (As := As) (rest := rest) X.1 (hM H.size) cw ⟨kBlind, fun U hU hWm => ⟨rfl, kpre X.2.2.2.1 X.2.2.2.2 hP hD hC hn U hU hWm⟩⟩ rfl hna hsize hst0 (lv_room hW) hdg hcs) hP hD hS hA isC hC hst kk
theorem k_tableDef (hexec : p.tables.exec = Jvm.exec) (hb : c.code = cc) {dflt lo hi : Int} {offs : Array Int} {len : Nat} {x : Int32} {tgt : Nat} (hdg : decode cc pc = .ok (.tableswitch dflt lo hi offs, len)) (h : x.toInt < lo ∨ hi < x.toInt ∨ (¬ x.toInt < lo ∧ ¬ hi < x.toInt ∧ offs[(x.toInt - lo).toNat]? = some dflt)) (ht : (pc : Int) + dflt = (tgt : Int))
    (k : W p l e R s m args below meth c H locs cells slots Q (F0 m tgt ls rest)) : W p l e R s m args below meth c H locs cells slots Q (F0 m pc ls (.int x :: rest)) := by
  rcases h with h | h | ⟨h1, h2, h3⟩
  · exact lv_tableOut hexec hb hdg (Or.inl h) ht k
  · exact lv_tableOut hexec hb hdg (Or.inr h) ht k
  · exact lv_tableIn hexec hb hdg h1 h2 h3 ht k
theorem k_iret {v : Int32} (X : kX p s m meth c cc nL (some .int) Ts own G cI cZ cE args) (hres : res = some (.int v)) (hdg : decode cc pc = .ok (.ireturn, 1)) (hP : va_P G vwCl ws' H) (hD : va_D A ws') (hS : va_S A s.heap H locs) : W p l e R s m args below meth c H locs 0 0 (kQ below G ws' res A args s) (F0 m pc ls [.int v]) := by
  subst hres
  exact W.iret X.1.1 X.1.2.1 X.2.1 (fun t ht hW => ⟨⟨rfl, by rw [ht]; exact hP, hD⟩, hS.F ht⟩) hS.2.2 hdg X.2.2.1
theorem k_zret {v : Bool} (X : kX p s m meth c cc nL (some .boolean) Ts own G cI cZ cE args) (hres : res = some (.int (bI v))) (hdg : decode cc pc = .ok (.ireturn, 1)) (hP : va_P G vwCl ws' H) (hD : va_D A ws') (hS : va_S A s.heap H locs) : W p l e R s m args below meth c H locs 0 0 (kQ below G ws' res A args s) (F0 m pc ls [.int (bI v)]) := by
  subst hres
  exact W.zret X.1.1 X.1.2.1 X.2.1 (kbn v) (fun t ht hW => ⟨⟨rfl, by rw [ht]; exact hP, hD⟩, hS.F ht⟩) hS.2.2 hdg X.2.2.1
theorem k_lret {v : Int64} (X : kX p s m meth c cc nL (some .long) Ts own G cI cZ cE args) (hres : res = some (.long v)) (hdg : decode cc pc = .ok (.lreturn, 1)) (hP : va_P G vwCl ws' H) (hD : va_D A ws') (hS : va_S A s.heap H locs) : W p l e R s m args below meth c H locs 0 0 (kQ below G ws' res A args s) (F0 m pc ls [.long v]) := by
  subst hres
  exact W.lret X.1.1 X.1.2.1 X.2.1 (fun t ht hW => ⟨⟨rfl, by rw [ht]; exact hP, hD⟩, hS.F ht⟩) hS.2.2 hdg X.2.2.1
theorem k_vret (X : kX p s m meth c cc nL none Ts own G cI cZ cE args) (hres : res = none) (hdg : decode cc pc = .ok (.return_, 1)) (hP : va_P G vwCl ws' H) (hD : va_D A ws') (hS : va_S A s.heap H locs) : W p l e R s m args below meth c H locs 0 0 (kQ below G ws' res A args s) (F0 m pc ls []) := by
  subst hres
  exact W.vret X.1.1 X.1.2.1 X.2.1 (fun t ht hW => ⟨⟨rfl, by rw [ht]; exact hP, hD⟩, hS.F ht⟩) hS.2.2 hdg X.2.2.1
theorem k_aret {v : Option Nat} {o : String} (X : kX p s m meth c cc nL (some (.object o)) Ts own G cI cZ cE args) (hres : res = some (va_rf v)) (hdg : decode cc pc = .ok (.areturn, 1)) (hP : va_P G vwCl ws' H) (hD : va_D A ws') (hS : va_S A s.heap H locs) : W p l e R s m args below meth c H locs 0 0 (kQ below G ws' res A args s) (F0 m pc ls [va_rf v]) := by
  subst hres
  exact W.aret X.1.1 X.1.2.1 X.2.1 (Or.inl ⟨_, rfl⟩) (va_rf_or v) (fun t ht hW => ⟨⟨rfl, by rw [ht]; exact hP, hD⟩, hS.F ht⟩) hS.2.2 hdg X.2.2.1
end KC
/-! constructors: cells are made -/
def kPostC (G : va_G) (ws : va_W) (sz : Nat) (post : va_W → Prop) : Array Value → State → Outcome → State → Prop := fun _ st oc t => (oc = .returned none ∧ ∃ w : va_W, post w ∧ va_P G vwCl w t.heap ∧ va_D (va_A ws sz) w) ∧ va_F (va_A ws sz) st t
def kC (l : Launch) (y : MethodName) (Ts : List Cond) (rm : Room) (G : va_G) (cI cZ cE : ClassId) (av : List Value) (ws : va_W) (mc ms : Nat) (post : va_W → Prop) : Prop :=
  ∀ sz : Nat, Met l y Ts rm (va_Pc av (kPre G cI cZ cE ws sz)) (kPostC G ws sz post) mc ms (va_A ws sz)
def kQC (below : List Frame) (G : va_G) (post : va_W → Prop) (A : Nat → Prop) (args : Array Value) (s : State) (mc ms : Nat) : State → Prop :=
  MQ below (fun _ st oc t => (oc = .returned none ∧ ∃ w : va_W, post w ∧ va_P G vwCl w t.heap ∧ va_D A w) ∧ va_F A st t) args s mc ms A
theorem kC_of {l : Launch} {y : MethodName} {Ts Ts' : List Cond} {rm : Room} {G : va_G} {cI cZ cE : ClassId} {av : List Value} {ws : va_W} {mc ms : Nat} {post : va_W → Prop} (cc : ByteArray) (nL : Nat) (own : String)
    (hy : plainName y.cls = true) (hown : y.cls = own) (hnm : y.name = "<init>") (hw : Ts = Cond.code y cc nL none :: Ts') (hav : (lg_sl av).length ≤ nL)
    (body : ∀ (p : Program) (e : Env) (s : State) (m : MethodId) (below : List Frame) (meth : Method) (c : Code) (A : Nat → Prop) (ls : Array Slot), kX p s m meth c cc nL none Ts own G cI cZ cE av.toArray → meth.name = "<init>" → (∀ q, s.heap.size ≤ q → A q) → va_P G vwCl ws s.heap → va_D A ws → va_S A s.heap s.heap [] → lv_has ls nL (lv_args 0 av) →
      W p l e rm s m av.toArray below meth c s.heap [] 0 0 (kQC below G post A av.toArray s mc ms) (F0 m 0 ls [])) : kC l y Ts rm G cI cZ cE av ws mc ms post := by
  intro sz
  refine Met.ofW (cc := cc) (maxL := nL) (ret := none) hy hw ?_
  intro p e s m args below meth c s₁ B hml hv
  obtain ⟨rfl, hsz, hP, hK, hD0, hN⟩ := hv
  subst hsz
  rw [lg_entry_eq]
  exact body p e s m below meth c (va_A ws s.heap.size) _ ⟨⟨B.exec, B.bytes, hml, hown ▸ findClass_of_methodNamed B.named, atoms_spec (ws := Ts) B.pre⟩, B.returns, B.notSynchronized, hK, hN⟩ ((name_of_methodNamed B.named B.method).1.trans hnm) (fun q h => Or.inr h) hP hD0.self va_S.rf (lv_entry av hav)
theorem k_two {G : va_G} {cl : List vw_C} {tys : List (ClassId × FieldType)} {s : State} {ty : FieldType} {c1 c2 : ClassId} {i j : Nat} (hK : va_K G cl tys s) (hi : tys[i]? = some (c1, ty)) (hj : tys[j]? = some (c2, ty)) : c1 = c2 := by
  have h1 := (hK.2 i _ hi).2
  have h2 := (hK.2 j _ hj).2
  cases ty with
  | object C =>
    obtain ⟨_, _, _, _, _, a⟩ := h1
    obtain ⟨_, _, _, _, _, b⟩ := h2
    exact Option.some.inj (a.symm.trans b)
  | _ => exact Option.some.inj (h1.symm.trans h2)
section KCC
variable {p : Program} {l : Launch} {e : Env} {R : Room} {s : State} {m : MethodId} {args : Array Value} {below : List Frame} {meth : Method} {c : Code} {H : Heap} {locs : List Loc} {cells slots : Nat} {Q : State → Prop}
variable {pc : Nat} {ls : Array Slot} {rest st0 : List Value} {a : Array Value} {A : Nat → Prop} {H0 : Heap} {G : va_G} {cI cZ cE : ClassId} {ws wc wr : va_W} {post : va_W → Prop} {mc ms : Nat}
theorem kcallC (hr : va_Run p l e R s m args below meth c H locs cells slots mc ms (F0 m pc ls st0) rest (kPostC G wc H.size post a) (va_A wc H.size)) (hP : va_P G vwCl ws H) (hD : va_D A ws) (hS : va_S A H0 H locs) (hA : ∀ q, H0.size ≤ q → A q)
    (isC isR : List Nat) (hC : isC.map (fun i => ws[i]?) = wc.map some) (hR : isR.map (fun i => ws[i]?) = wr.map some) (hn : va_nd isR = true) (hdis : ∀ i ∈ isR, i ∉ isC)
    (kk : ∀ (w : va_W) (H1 : Heap) (locs1 : List Loc), post w → va_P G vwCl (wr ++ w) H1 → va_D A (wr ++ w) → va_S A H0 H1 locs1 → W p l e R s m args below meth c H1 locs1 (cells + mc) (slots + ms) Q (F0 m (pc + 3) ls rest)) : W p l e R s m args below meth c H locs cells slots Q (F0 m pc ls st0) := by
  intro T hT X
  obtain ⟨v, st₀, t, T', L, h0, X', hL, e1, e2, ⟨⟨hv, w, hw, hp1, hd1⟩, hz, hk⟩, st⟩ := hr T hT X
  cases hv
  rw [h0] at hz hk
  have hF := va_free hD hS hA isC hC
  obtain ⟨hP', hD'⟩ := va_join hP hD isC isR hC hR hn hdis hk hF hp1 hd1
  obtain ⟨t2, a1, b1⟩ := kk w T'.heap (locs ++ L) hw (by rw [e1]; exact hP') hD'
    ⟨Nat.le_trans hS.1 (by rw [e1]; exact hz), fun q h1 h2 => by rw [e1, hk q (Nat.lt_of_lt_of_le h1 hS.1) (fun z => h2 (hF q z))]; exact hS.2.1 q h1 h2, fun q hq => by
      rcases List.mem_append.mp hq with h | h
      · exact hS.2.2 q h
      · exact hF _ (hL q h)⟩ T' rfl X'
  exact ⟨t2, st t2 a1, b1⟩
variable {cc bytes : ByteArray} {nL maxL n index : Nat} {ret : Option FieldType} {Ts wsY : List Cond} {own host : String} {y : MethodName} {rm : Room} {b : Nat} {As : List Value}
theorem kcI (X : kX p s m meth c cc nL ret Ts own G cI cZ cE args) (hA : ∀ q, H0.size ≤ q → A q) (hM : kC l y wsY rm G cI cZ cE (.ref b :: As) wc mc ms post) (cw : CallB R s args own index y bytes maxL none wsY rm mc ms n ∧ y.name = "<init>" ∧ (Cond.instanceMethod y).before args s = true)
    (hsize : ls.size = nL) (hdg : decode cc pc = .ok (.invokespecial index, 3)) (hP : va_P G vwCl ws H) (hD : va_D A ws) (hS : va_S A H0 H locs)
    (isC isR : List Nat) (hC : isC.map (fun i => ws[i]?) = wc.map some) (hnC : va_nd isC = true) (hR : isR.map (fun i => ws[i]?) = wr.map some) (hn : va_nd isR = true) (hdis : ∀ i ∈ isR, i ∉ isC) (hna : As.length = n) (rest : List Value) (hst0 : st0 = As.reverse ++ .ref b :: rest) (hW : (rest.map fun v => v.category).sum ≤ 8) (hcs : cells + mc ≤ R.cells ∧ slots + ms ≤ R.slots)
    (kk : ∀ (w : va_W) (H1 : Heap) (locs1 : List Loc), post w → va_P G vwCl (wr ++ w) H1 → va_D A (wr ++ w) → va_S A H0 H1 locs1 → W p l e R s m args below meth c H1 locs1 (cells + mc) (slots + ms) Q (F0 m (pc + 3) ls rest)) : W p l e R s m args below meth c H locs cells slots Q (F0 m pc ls st0) :=
  kcallC (va_runI (As := As) (rest := rest) X.1 (hM H.size) cw ⟨kBlind, fun U hU hWm => ⟨rfl, kpre X.2.2.2.1 X.2.2.2.2 hP hD hC hnC U hU hWm⟩⟩ rfl hna hsize hst0 (lv_room hW) hdg hcs) hP hD hS hA isC isR hC hR hn hdis kk
theorem kcIN (X : kX p s m meth c cc nL ret Ts own G cI cZ cE args) (hA : ∀ q, H0.size ≤ q → A q) (hM : kC l y wsY rm G cI cZ cE (.ref b :: As) wc mc ms post) (cw : va_CN R s args own index y host bytes maxL none wsY rm mc ms n ∧ y.name = "<init>" ∧ (Cond.instanceMethod y).before args s = true)
    (hsize : ls.size = nL) (hdg : decode cc pc = .ok (.invokespecial index, 3)) (hP : va_P G vwCl ws H) (hD : va_D A ws) (hS : va_S A H0 H locs)
    (isC isR : List Nat) (hC : isC.map (fun i => ws[i]?) = wc.map some) (hnC : va_nd isC = true) (hR : isR.map (fun i => ws[i]?) = wr.map some) (hn : va_nd isR = true) (hdis : ∀ i ∈ isR, i ∉ isC) (hna : As.length = n) (rest : List Value) (hst0 : st0 = As.reverse ++ .ref b :: rest) (hW : (rest.map fun v => v.category).sum ≤ 8) (hcs : cells + mc ≤ R.cells ∧ slots + ms ≤ R.slots)
    (kk : ∀ (w : va_W) (H1 : Heap) (locs1 : List Loc), post w → va_P G vwCl (wr ++ w) H1 → va_D A (wr ++ w) → va_S A H0 H1 locs1 → W p l e R s m args below meth c H1 locs1 (cells + mc) (slots + ms) Q (F0 m (pc + 3) ls rest)) : W p l e R s m args below meth c H locs cells slots Q (F0 m pc ls st0) :=
  kcallC (va_runIN (As := As) (rest := rest) X.1 (hM H.size) cw ⟨kBlind, fun U hU hWm => ⟨rfl, kpre X.2.2.2.1 X.2.2.2.2 hP hD hC hnC U hU hWm⟩⟩ rfl hna hsize hst0 (lv_room hW) hdg hcs) hP hD hS hA isC isR hC hR hn hdis kk
end KCC
/-- words by places -/
theorem k_in {big : List Cond} (ws : List Cond) (ps : List Nat) (hp : ws = ps.filterMap (fun i => big[i]?)) : ∀ w ∈ ws, w ∈ big := by
  intro w hw
  rw [hp] at hw
  obtain ⟨i, -, hi⟩ := List.mem_filterMap.mp hw
  exact List.mem_of_getElem? hi
