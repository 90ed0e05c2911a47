/-! acts: both sides alike -/
def stp (p d : Int32) (h c : List (Nat × Nat) × Nat) : Prop := (p = -9 ∧ ∃ q, c.1 = h.1 ++ [(h.2, q)] ∧ c.2 = h.2 + 1) ∨ ∃ i e, p = nI i ∧ d = enc e ∧ h.1[i]? = some e ∧ c.1 = h.1.eraseIdx i ∧ c.2 = h.2
def chn : List (Int32 × Int32) → List (List (Nat × Nat) × Nat) → List (Nat × Nat) × Nat → Prop
  | [], [], _ => True
  | a :: A, h :: H, c => stp a.1 a.2 h c ∧ chn A H h
  | [], _ :: _, _ => False
  | _ :: _, [], _ => False
theorem chn_len : ∀ {A : List (Int32 × Int32)} {H : List (List (Nat × Nat) × Nat)} {c : List (Nat × Nat) × Nat}, chn A H c → A.length = H.length
  | [], [], _, _ => rfl
  | a :: A, h :: H, c, q => by rw [List.length_cons, List.length_cons, chn_len q.2]
  | [], _ :: _, _, q => q.elim
  | _ :: _, [], _, q => q.elim
theorem chn_take : ∀ (k : Nat) {A : List (Int32 × Int32)} {H : List (List (Nat × Nat) × Nat)} {c : List (Nat × Nat) × Nat}, chn A H c → chn (A.take k) (H.take k) c
  | 0, _, _, _, _ => trivial
  | k + 1, [], [], _, _ => trivial
  | k + 1, a :: A, h :: H, c, q => ⟨q.1, chn_take k q.2⟩
  | k + 1, [], _ :: _, _, q => q.elim
  | k + 1, _ :: _, [], _, q => q.elim
def actC (ds : Int32) (df : Nat → Int32) (ps : Int32) (pf : Nat → Int32) (A : List (Int32 × Int32)) : Prop := rowR 14 ps pf ((A.map Prod.fst).reverse) ∧ rowR 14 ds df ((A.map Prod.snd).reverse)
def rgM (row : Nat → Int32) (nt : Nat) (H : List (List (Nat × Nat) × Nat)) : Prop := nt < 14 ∧ H.length ≤ 14 ∧ ∀ i h, H[i]? = some h → mdB row ((nt + 13 - i) % 14) h.1 h.2
theorem rev_cons {α : Type} (x : α) (l : List α) : (x :: l).reverse = l.reverse ++ [x] := List.reverse_cons
theorem take13 {α : Type} {A : List α} (h : A.length = 14) (x : α) : ((x :: A).take 14).reverse = A.reverse.eraseIdx 0 ++ [x] := by
  rw [List.take_succ_cons, List.reverse_cons, List.eraseIdx_zero, List.tail_reverse, List.dropLast_eq_take, h]
section AC
variable {ds ps : Int32} {df pf : Nat → Int32} {A : List (Int32 × Int32)} {H : List (List (Nat × Nat) × Nat)}
theorem addDel_n (h : actC ds df ps pf A) (p d : Int32) : ∃ df' pf', mX0_addDeleted ds df ps pf p d = some (nI (((p, d) :: A).take 14).length, df', nI (((p, d) :: A).take 14).length, pf') ∧ actC (nI (((p, d) :: A).take 14).length) df' (nI (((p, d) :: A).take 14).length) pf' (((p, d) :: A).take 14) := by
  obtain ⟨hp, hd⟩ := h
  have hlp : ((A.map Prod.fst).reverse).length = A.length := by rw [List.length_reverse, List.length_map]
  have hld : ((A.map Prod.snd).reverse).length = A.length := by rw [List.length_reverse, List.length_map]
  have h14 : A.length ≤ 14 := by have := hp.2.1; omega
  rw [mX0_addDeleted, isFull_n hp, hlp]
  by_cases hf : 14 ≤ A.length
  · have e14 : A.length = 14 := by omega
    have el : (((p, d) :: A).take 14).length = 14 := by rw [List.length_take, List.length_cons]; omega
    obtain ⟨pf1, e1, r1⟩ := takeOut_n hp (k := 0) (by omega)
    obtain ⟨df1, e2, r2⟩ := takeOut_n hd (k := 0) (by omega)
    have e1' : mX6_takeOut 14 ps pf 0 = _ := e1
    have e2' : mX6_takeOut 14 ds df 0 = _ := e2
    have l1 : ((A.map Prod.fst).reverse.eraseIdx 0).length = 13 := by rw [List.length_eraseIdx_of_lt (by omega), hlp]; omega
    have l2 : ((A.map Prod.snd).reverse.eraseIdx 0).length = 13 := by rw [List.length_eraseIdx_of_lt (by omega), hld]; omega
    obtain ⟨pf2, e3, r3⟩ := add_n r1 (by omega) p
    obtain ⟨df2, e4, r4⟩ := add_n r2 (by omega) d
    rw [l1] at e3 r3
    rw [l2] at e4 r4
    rw [if_pos (decide_eq_true hf), e1', Option.bind_some, e2', Option.bind_some, mX0_addDeleted_J28]
    dsimp only
    rw [e3, Option.bind_some, e4, Option.bind_some, el]
    refine ⟨df2, pf2, rfl, ?_, ?_⟩
    · have : (((p, d) :: A).take 14).map Prod.fst = (p :: A.map Prod.fst).take 14 := by rw [List.map_take]; rfl
      rw [this, take13 (by rw [List.length_map]; exact e14)]
      exact r3
    · have : (((p, d) :: A).take 14).map Prod.snd = (d :: A.map Prod.snd).take 14 := by rw [List.map_take]; rfl
      rw [this, take13 (by rw [List.length_map]; exact e14)]
      exact r4
  · have et : ((p, d) :: A).take 14 = (p, d) :: A := List.take_of_length_le (by rw [List.length_cons]; omega)
    obtain ⟨pf2, e3, r3⟩ := add_n hp (by omega) p
    obtain ⟨df2, e4, r4⟩ := add_n hd (by omega) d
    rw [hlp] at e3 r3
    rw [hld] at e4 r4
    rw [if_neg (by rw [decide_eq_true_eq]; exact hf), mX0_addDeleted_J28, e3, Option.bind_some, e4, Option.bind_some, et]
    refine ⟨df2, pf2, rfl, ?_, ?_⟩
    · rw [List.map_cons, List.reverse_cons]; exact r3
    · rw [List.map_cons, List.reverse_cons]; exact r4
/-- the reference keeps what was before -/
theorem ring_push {row row' : Nat → Int32} {nt : Nat} (h : rgM row nt H) {now : Nat → Int32} {E : List (Nat × Nat)} {nx : Nat} (hd : mdR now 0 E nx) (h1 : ∀ i, i < 50 → row' (50 * nt + i) = now i) (h2 : ∀ t, (t < 50 * nt ∨ 50 * nt + 50 ≤ t) → row' t = row t) : rgM row' ((nt + 1) % 14) (((E, nx) :: H).take 14) := by
  obtain ⟨hn, hl, hr⟩ := h
  refine ⟨Nat.mod_lt _ (by decide), by rw [List.length_take]; omega, fun i h hi => ?_⟩
  have hil := (List.getElem?_eq_some_iff.mp hi).1
  rw [List.length_take] at hil
  have hi14 : i < 14 := by omega
  rw [List.getElem?_take_of_lt hi14] at hi
  cases i with
  | zero =>
    have : (E, nx) = h := by simpa using hi
    subst this
    have eb : ((nt + 1) % 14 + 13 - 0) % 14 = nt := by omega
    rw [eb]
    exact hd.toB.copy fun i hi => by rw [h1 i hi, Nat.mul_zero, Nat.zero_add]
  | succ i =>
    have hi' : H[i]? = some h := by simpa using hi
    have eb : ((nt + 1) % 14 + 13 - (i + 1)) % 14 = (nt + 13 - i) % 14 := by omega
    rw [eb]
    refine (hr i h hi').copy fun t ht => h2 _ ?_
    have : (nt + 13 - i) % 14 ≠ nt := by omega
    have hlt : (nt + 13 - i) % 14 < 14 := Nat.mod_lt _ (by decide)
    generalize (nt + 13 - i) % 14 = b at this hlt ⊢
    rcases Nat.lt_or_gt_of_ne this with z | z
    · left
      have : 50 * b + 50 ≤ 50 * nt := by omega
      omega
    · right
      have : 50 * nt + 50 ≤ 50 * b := by omega
      omega
theorem keepAct_all {row : Nat → Int32} {nt : Nat} (h : rgM row nt H) {now : Nat → Int32} {E : List (Nat × Nat)} {nx : Nat} (hd : mdR now 0 E nx) : ∃ row', mX11_keepAct (nI H.length) (nI nt) now row = some (nI (((E, nx) :: H).take 14).length, nI ((nt + 1) % 14), row') ∧ rgM row' ((nt + 1) % 14) (((E, nx) :: H).take 14) := by
  obtain ⟨row', e, h1, h2⟩ := keepAct_n (ac := nI H.length) h.1 now row
  have hn := h.1
  have hl := h.2.1
  have e1 : nI nt + 1 - (nI nt + 1) / 14 * 14 = nI ((nt + 1) % 14) := by
    rw [nI_1]; exact pk_rem (d := 14) (by omega) (by omega) (by omega)
  refine ⟨row', ?_, ring_push h hd h1 h2⟩
  rw [e, mX11_keepAct_J34, e1, List.length_take, List.length_cons]
  by_cases h14 : 14 ≤ H.length
  · rw [if_pos (show (14 : Int32) ≤ nI H.length from (nI_leI (a := 14) (by omega) (by omega)).mpr h14), Nat.min_eq_left (by omega)]; rfl
  · rw [if_neg (show ¬ (14 : Int32) ≤ nI H.length from fun q => h14 ((nI_leI (a := 14) (by omega) (by omega)).mp q)), Nat.min_eq_right (by omega), nI_1]
/-- acts on both sides -/
def hisR (ds : Int32) (df : Nat → Int32) (ps : Int32) (pf : Nat → Int32) (row : Nat → Int32) (nt : Nat) (H : List (List (Nat × Nat) × Nat)) (c : List (Nat × Nat) × Nat) : Prop := ∃ A, actC ds df ps pf A ∧ chn A H c ∧ rgM row nt H
theorem hisR.push {row : Nat → Int32} {nt : Nat} {E E' : List (Nat × Nat)} {nx nx' : Nat} {now : Nat → Int32} (h : hisR ds df ps pf row nt H (E, nx)) (hd : mdR now 0 E nx) (p d : Int32) (hs : stp p d (E, nx) (E', nx')) : ∃ ds' df' ps' pf' row', mX0_addDeleted ds df ps pf p d = some (ds', df', ps', pf') ∧ mX11_keepAct (nI H.length) (nI nt) now row = some (nI (((E, nx) :: H).take 14).length, nI ((nt + 1) % 14), row') ∧ hisR ds' df' ps' pf' row' ((nt + 1) % 14) (((E, nx) :: H).take 14) (E', nx') := by
  obtain ⟨A, ha, hc, hr⟩ := h
  obtain ⟨df', pf', e1, a1⟩ := addDel_n ha p d
  obtain ⟨row', e2, r2⟩ := keepAct_all hr hd
  exact ⟨_, df', _, pf', row', e1, e2, _, a1, chn_take 14 (A := (p, d) :: A) (H := (E, nx) :: H) ⟨hs, hc⟩, r2⟩
end AC
section IU
variable {sz : Int32} {f : Nat → Int32} {E : List (Nat × Nat)} {now : Nat → Int32} {nx n nt : Nat} {ds ps : Int32} {df pf row : Nat → Int32} {H : List (List (Nat × Nat) × Nat)}
theorem both_insert (h : edR sz f E) (hd : mdR now 0 E nx) (hE : okE E) (hnx : nx < 1000000) (h1 : 1 ≤ n) (h8 : n ≤ 8) (hh : hisR ds df ps pf row nt H (E, nx)) (p1 p2 : Int32) : ∃ r nx' sz' f' ds' df' ps' pf' nt' now' row' E' H', mX10_insert (nI n) (nI nx) sz f ds df ps pf p1 p2 = some (r, nI nx', sz', f', ds', df', ps', pf') ∧ mX11_insert (nI n) (nI H.length) (nI nt) now row p1 p2 = some (r, nI H'.length, nI nt', now', row') ∧ edR sz' f' E' ∧ mdR now' 0 E' nx' ∧ okE E' ∧ nx ≤ nx' ∧ nx' ≤ nx + 1 ∧ hisR ds' df' ps' pf' row' nt' H' (E', nx') ∧ ∀ x, x ∈ H' → x ∈ H ∨ x = (E, nx) := by
  have hle := hE.1
  rw [mX10_insert, mX11_insert]
  rcases knots_n h1 h8 p1 p2 with ⟨a, b, ha, hb, rfl, rfl, q0, q1, q2⟩ | ⟨q0, q⟩
  · rw [if_pos q0, if_pos q1, if_pos q2]
    by_cases hab : a = b
    · rw [if_pos (by rw [hab]), if_pos (by rw [hab])]
      exact ⟨_, nx, _, _, _, _, _, _, nt, _, _, E, H, rfl, rfl, h, hd, hE, Nat.le_refl _, by omega, hh, fun x hx => Or.inl hx⟩
    · have hne : ¬ nI a = nI b := fun q => hab ((nI_eq (by omega) (by omega)).mp q)
      have ef : mX11_find now 0 (nI a) (nI b) = some (plcP (ePr E) (10 * a + b)) := md_find hd hE (by omega) (by omega)
      have emn : mX11_many now 0 = some (nI E.length) := md_many hd
      rw [if_neg hne, if_neg hne, ed_has h hE (by omega) (by omega), Option.bind_some, ef, Option.bind_some, ed_isFull h, emn]
      by_cases hp : 10 * a + b ∈ ePr E
      · have h9 : ¬ plcP (ePr E) (10 * a + b) = -9 := by
          have := idx_lt hp
          rw [plcP, if_pos hp, i_ne9 (by omega)]; exact id
        rw [if_pos (decide_eq_true hp), if_neg h9]
        exact ⟨_, nx, _, _, _, _, _, _, nt, _, _, E, H, rfl, rfl, h, hd, hE, Nat.le_refl _, by omega, hh, fun x hx => Or.inl hx⟩
      · rw [if_neg (by rw [decide_eq_true_eq]; exact hp), if_pos (show plcP (ePr E) (10 * a + b) = -9 from if_neg hp), Option.bind_some]
        by_cases hl : 24 ≤ E.length
        · rw [if_pos (decide_eq_true hl), if_pos (show nI E.length = 24 by rw [show E.length = 24 by omega]; rfl)]
          exact ⟨_, nx, _, _, _, _, _, _, nt, _, _, E, H, rfl, rfl, h, hd, hE, Nat.le_refl _, by omega, hh, fun x hx => Or.inl hx⟩
        · obtain ⟨f', e1, r1⟩ := ed_append h (by omega) (s := nx) (a := a) (b := b)
          obtain ⟨now', e2, hd2, hs2⟩ := md_insert hd (by omega) a b
          have e2' : mX11_insertOn now 0 (nI a) (nI b) = some now' := e2
          obtain ⟨ds', df', ps', pf', row', e3, e4, h4⟩ := hh.push hd (-9) (-9) (E' := E ++ [(nx, 10 * a + b)]) (nx' := nx + 1) (Or.inl ⟨rfl, 10 * a + b, rfl, rfl⟩)
          have e5 : now' (Int32.toNatClampNeg 1) - 1 = nI nx := by
            have e51 : now' 1 = nI (nx + 1) := hd2.2.2.1
            show now' 1 - 1 = nI nx
            rw [e51]; exact i_pred (Nat.succ_pos nx)
          rw [if_neg (by rw [decide_eq_true_eq]; exact hl), if_neg (show ¬ nI E.length = 24 from fun q => hl (by have := (nI_eq (b := 24) (show E.length < 2 ^ 31 by omega) (by omega)).mp q; omega)), e1, Option.bind_some, mX0_addInserted, e3, Option.bind_some, Option.bind_some, e4, Option.bind_some, e2', Option.bind_some, e5]
          refine ⟨_, nx + 1, _, _, _, _, _, _, (nt + 1) % 14, _, _, _, _, rfl, rfl, r1, hd2, hE.app (by omega) hnx (by omega) (by omega) hab hp, by omega, by omega, h4, fun x hx => ?_⟩
          rcases List.mem_cons.mp (List.mem_of_mem_take hx) with z | z
          · exact Or.inr z
          · exact Or.inl z
  · rw [q0, if_f, ifk q]
    exact ⟨_, nx, _, _, _, _, _, _, nt, _, _, E, H, rfl, rfl, h, hd, hE, Nat.le_refl _, by omega, hh, fun x hx => Or.inl hx⟩
theorem both_delete (h : edR sz f E) (hd : mdR now 0 E nx) (hE : okE E) (h1 : 1 ≤ n) (h8 : n ≤ 8) (hh : hisR ds df ps pf row nt H (E, nx)) (p1 p2 : Int32) : ∃ r sz' f' ds' df' ps' pf' nt' now' row' E' H', mX10_delete (nI n) sz f ds df ps pf p1 p2 = some (r, sz', f', ds', df', ps', pf') ∧ mX11_delete (nI n) (nI H.length) (nI nt) now row p1 p2 = some (r, nI H'.length, nI nt', now', row') ∧ edR sz' f' E' ∧ mdR now' 0 E' nx ∧ okE E' ∧ hisR ds' df' ps' pf' row' nt' H' (E', nx) ∧ ∀ x, x ∈ H' → x ∈ H ∨ x = (E, nx) := by
  have hle := hE.1
  rw [mX10_delete, mX11_delete]
  rcases knots_n h1 h8 p1 p2 with ⟨a, b, ha, hb, rfl, rfl, q0, q1, q2⟩ | ⟨q0, q⟩
  · have ef : mX11_find now 0 (nI a) (nI b) = some (plcP (ePr E) (10 * a + b)) := md_find hd hE (by omega) (by omega)
    rw [if_pos q0, if_pos q1, if_pos q2, ed_has h hE (by omega) (by omega), Option.bind_some, ef, Option.bind_some]
    by_cases hp : 10 * a + b ∈ ePr E
    · have hil := idx_lt hp
      have e9 : plcP (ePr E) (10 * a + b) = nI ((ePr E).idxOf (10 * a + b)) := if_pos hp
      have h9 : ¬ plcP (ePr E) (10 * a + b) = -9 := by rw [e9, i_ne9 (by omega)]; exact id
      obtain ⟨e, he, hep⟩ := ePr_get hp
      obtain ⟨f', e1, r1⟩ := ed_takeOut h he
      obtain ⟨now', e2, hd2, hs2⟩ := md_delete hd hil
      have e2' : mX11_deleteOn now 0 (nI ((ePr E).idxOf (10 * a + b))) = some now' := e2
      have hst : stp (nI ((ePr E).idxOf (10 * a + b))) (enc e) (E, nx) (E.eraseIdx ((ePr E).idxOf (10 * a + b)), nx) := Or.inr ⟨_, e, rfl, rfl, he, rfl, rfl⟩
      obtain ⟨ds', df', ps', pf', row', e3, e4, h4⟩ := hh.push hd _ _ hst
      obtain ⟨b1, b2, -⟩ := hE.2.1 e (List.mem_of_getElem? he)
      have e5 : now (26 + (ePr E).idxOf (10 * a + b)) = nI e.1 := by
        have := (hd.2.2.2.2 _ e he).2
        rwa [show 50 * 0 + 26 + (ePr E).idxOf (10 * a + b) = 26 + (ePr E).idxOf (10 * a + b) by omega] at this
      have e6 : mX3_stampOf (enc e) = nI e.1 := stampOf_n b1 (by omega)
      rw [if_pos (decide_eq_true hp), if_neg h9, ed_placeOf h hE (by omega) (by omega), Option.bind_some, e9, e1, Option.bind_some, e4, Option.bind_some]
      dsimp only
      rw [e3, Option.bind_some, show (26 : Int32) + nI ((ePr E).idxOf (10 * a + b)) = nI (26 + (ePr E).idxOf (10 * a + b)) from nI_add 26 _, gd_n (by omega) (by omega), e2', Option.bind_some, i_cl (by omega), e5, e6]
      refine ⟨_, _, _, _, _, _, _, (nt + 1) % 14, _, _, _, _, rfl, rfl, r1, hd2, hE.era _, h4, fun x hx => ?_⟩
      rcases List.mem_cons.mp (List.mem_of_mem_take hx) with z | z
      · exact Or.inr z
      · exact Or.inl z
    · rw [if_neg (by rw [decide_eq_true_eq]; exact hp), if_pos (show plcP (ePr E) (10 * a + b) = -9 from if_neg hp)]
      exact ⟨_, _, _, _, _, _, _, nt, _, _, E, H, rfl, rfl, h, hd, hE, hh, fun x hx => Or.inl hx⟩
  · rw [q0, if_f, ifk q]
    exact ⟨_, _, _, _, _, _, _, nt, _, _, E, H, rfl, rfl, h, hd, hE, hh, fun x hx => Or.inl hx⟩
theorem ins_era {α : Type} : ∀ (l : List α) (i : Nat) (e : α), l[i]? = some e → (l.eraseIdx i).insertIdx i e = l
  | [], i, e, h => by simp at h
  | x :: l, 0, e, h => by
    have : x = e := by simpa using h
    subst this
    rfl
  | x :: l, i + 1, e, h => by
    have h' : l[i]? = some e := by simpa using h
    rw [List.eraseIdx_cons_succ, List.insertIdx_succ_cons, ins_era l i e h']
theorem both_undo (h : edR sz f E) (hd : mdR now 0 E nx) (hh : hisR ds df ps pf row nt H (E, nx)) (hH : ∀ x, x ∈ H → okE x.1) : ∃ r nx' sz' f' ds' df' ps' pf' nt' now' E' H', mX10_undo (nI nx) sz f ds df ps pf = some (r, nI nx', sz', f', ds', df', ps', pf') ∧ mX11_undo (nI H.length) (nI nt) now row = some (r, nI H'.length, nI nt', now') ∧ edR sz' f' E' ∧ mdR now' 0 E' nx' ∧ hisR ds' df' ps' pf' row nt' H' (E', nx') ∧ (∀ x, x ∈ H' → x ∈ H) ∧ ((E', nx') ∈ H ∨ (E', nx') = (E, nx)) := by
  obtain ⟨A, ⟨hp, hdl⟩, hc, hr⟩ := hh
  have hal := chn_len hc
  have h14 := hr.2.1
  have hlp : ((A.map Prod.fst).reverse).length = A.length := by rw [List.length_reverse, List.length_map]
  rw [mX10_undo, mX11_undo, mX0_size, mX6_size, hp.1, hlp, hal]
  cases A with
  | nil =>
    cases H with
    | cons _ _ => exact hc.elim
    | nil =>
      rw [if_pos (show nI ([] : List (List (Nat × Nat) × Nat)).length = 0 from rfl), if_pos (show nI ([] : List (List (Nat × Nat) × Nat)).length = 0 from rfl)]
      have hp1 : ps = nI 0 := hp.1
      exact ⟨_, nx, _, _, _, _, _, _, nt, _, E, [], rfl, rfl, h, hd, ⟨[], ⟨by have := hp; rw [hp1] at this; exact this, hdl⟩, hc, hr⟩, fun x hx => hx, Or.inr rfl⟩
  | cons a A =>
    cases H with
    | nil => exact hc.elim
    | cons s H =>
      obtain ⟨hst, hc'⟩ := hc
      have hl14 : H.length + 1 ≤ 14 := by rw [List.length_cons] at h14; exact h14
      rw [List.length_cons, if_neg (nI_ne0 (by omega) (by omega)), if_neg (nI_ne0 (by omega) (by omega))]
      rw [List.map_cons, List.reverse_cons] at hp hdl
      obtain ⟨pf', e1, r1⟩ := takeLast_n hp
      obtain ⟨df', e2, r2⟩ := takeLast_n hdl
      have hps : ps = nI (H.length + 1) := by rw [hp.1, List.length_append, List.length_reverse, List.length_map]; rw [List.length_cons, List.length_cons] at hal; rw [show A.length = H.length by omega]; rfl
      rw [← hps, mX0_undoLast, e1, Option.bind_some, e2, Option.bind_some]
      dsimp only
      obtain ⟨now', e3, h3⟩ := undo_l (ac := nI (H.length + 1)) hr.1 row now
      have hb := hr.2.2 0 s rfl
      rw [Nat.sub_zero] at hb
      have hd' : mdR now' 0 s.1 s.2 := (hb.copy (g := now') (c := 0) fun i hi => by rw [Nat.mul_zero, Nat.zero_add]; exact h3 i hi).toR
      have hr' : rgM row ((nt + 13) % 14) H := by
        refine ⟨Nat.mod_lt _ (by decide), by omega, fun i x hx => ?_⟩
        have hil := (List.getElem?_eq_some_iff.mp hx).1
        have hn := hr.1
        have := hr.2.2 (i + 1) x (by simpa using hx)
        rw [show (nt + 13 - (i + 1)) % 14 = ((nt + 13) % 14 + 13 - i) % 14 by omega] at this
        exact this
      have lp : ((A.map Prod.fst).reverse).length = H.length := by rw [List.length_reverse, List.length_map]; rw [List.length_cons, List.length_cons] at hal; omega
      rw [hps, e3, lp]
      rw [lp] at r1
      have ei : nI (H.length + 1) - 1 = nI H.length := i_pred (Nat.succ_pos _)
      rw [ei]
      have hE := hH s List.mem_cons_self
      rcases hst with ⟨q1, q, q2, q3⟩ | ⟨i, e, q1, q2, q3, q4, q5⟩
      · dsimp only at q2 q3
        subst q2
        subst q3
        obtain ⟨f', e4, r4⟩ := ed_takeBack h (Nat.succ_pos s.2)
        rw [if_pos q1, e4, Option.bind_some, Option.bind_some, mX0_size, mX6_size]
        exact ⟨_, s.2, _, _, _, _, _, _, (nt + 13) % 14, _, s.1, H, rfl, rfl, r4, hd', ⟨A, ⟨r1, r2⟩, hc', hr'⟩, fun x hx => List.mem_cons_of_mem _ hx, Or.inl List.mem_cons_self⟩
      · dsimp only at q4 q5
        have hil := (List.getElem?_eq_some_iff.mp q3).1
        have hle := hE.1
        subst q4
        subst q5
        have hel : (s.1.eraseIdx i).length = s.1.length - 1 := List.length_eraseIdx_of_lt hil
        obtain ⟨f', e4, r4⟩ := ed_putBack h (k := i) (by omega) (by omega) e
        rw [ins_era _ _ _ q3] at r4
        rw [if_neg (by rw [q1, i_ne9 (by omega)]; exact id), q1, q2, e4, Option.bind_some, Option.bind_some, mX0_size, mX6_size]
        rw [hel, show s.1.length - 1 + 1 = s.1.length by omega] at r4 ⊢
        exact ⟨_, s.2, _, _, _, _, _, _, (nt + 13) % 14, _, s.1, H, rfl, rfl, r4, hd', ⟨A, ⟨r1, r2⟩, hc', hr'⟩, fun x hx => List.mem_cons_of_mem _ hx, Or.inl List.mem_cons_self⟩
end IU
