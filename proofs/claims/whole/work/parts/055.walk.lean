/-! the walk by depth: both sides alike -/
def fwP (P : List Nat) (v : Nat) (met : List Nat) : Option Nat := P.find? (fun p => decide (p / 10 = v) && !decide (p % 10 ∈ met))
/-- the walk: those met, and the way back with its end first -/
def walkP (P : List Nat) : Nat → List Nat → List Nat → List Nat
  | 0, met, _ => met
  | _ + 1, met, [] => met
  | n + 1, met, v :: st => match fwP P v met with
    | none => walkP P n met st
    | some p => walkP P n (met ++ [p % 10]) (p % 10 :: v :: st)
theorem walkP_nil (P : List Nat) (n : Nat) (met : List Nat) : walkP P n met [] = met := by cases n <;> rfl
theorem nodup1 (x : Nat) : [x].Nodup := by simp
theorem nodup_le : ∀ (n : Nat) (l : List Nat), l.Nodup → (∀ x, x ∈ l → x < n) → l.length ≤ n := by
  intro n
  induction n with
  | zero =>
    intro l _ hb
    cases l with
    | nil => exact Nat.le_refl _
    | cons a l => exact absurd (hb a List.mem_cons_self) (Nat.not_lt_zero _)
  | succ n ih =>
    intro l hn hb
    have h1 := ih (l.erase n) (hn.erase n) (fun x hx => by
      obtain ⟨h2, h3⟩ := hn.mem_erase_iff.mp hx
      have := hb x h3; omega)
    by_cases hm : n ∈ l
    · rw [List.length_erase_of_mem hm] at h1; omega
    · rw [List.erase_of_not_mem hm] at h1; omega
theorem nodup8 {l : List Nat} (hn : l.Nodup) (hb : ∀ x, x ∈ l → x < 8) : l.length ≤ 8 := nodup_le 8 l hn hb
section WK
variable {sz : Int32} {f : Nat → Int32} {E : List (Nat × Nat)} {now : Nat → Int32} {L nx : Nat}
theorem ed_way (h : edR sz f E) (hE : okE E) {v : Nat} (hv : v < 8) {s : Int32} {met : List Nat} (hs : ∀ t, t < 8 → (bt s t = true ↔ t ∈ met)) : mX3_firstWayOn sz f (nI v) s = some (match fwP (ePr E) v met with | some p => nI (p % 10) | none => -9) := by
  have hle := h.le
  have key : ∀ (l : List (Nat × Nat)) (k fuel : Nat), E.drop k = l → k ≤ E.length → l.length < fuel → mX3_firstWayOn_L2 sz f (nI v) s fuel (nI k) = some (match fwP (l.map Prod.snd) v met with | some p => nI (p % 10) | none => -9) := by
    intro l
    induction l with
    | nil =>
      intro k fuel hd hke hf
      obtain ⟨m, rfl⟩ := fuel_s hf
      have hk := dropN hd
      rw [mX3_firstWayOn_L2, mX6_size, if_pos (by rw [h.len]; exact (nI_leI (by omega) (by omega)).mpr hk)]
      rfl
    | cons e l ih =>
      intro k fuel hd hke hf
      obtain ⟨m, rfl⟩ := fuel_s hf
      obtain ⟨g1, g2, g3⟩ := dropC hd
      have hm := hE.2.1 e (List.mem_of_getElem? g2)
      have hrec := ih (k + 1) m g3 (by omega) (by simp only [List.length_cons] at hf; omega)
      rw [mX3_firstWayOn_L2, mX6_size, if_neg (by rw [h.len]; exact fun q => by have := (nI_leI (by omega) (by omega)).mp q; omega), ed_pair h hE g2, mod10 (p := e.2) (by omega), div10 (p := e.2) (by omega), nI_1, isIn_n _ (by omega), List.map_cons, fwP, List.find?_cons]
      by_cases h1 : e.2 / 10 = v
      · rw [if_pos (by rw [h1]), decide_eq_true h1, Bool.true_and]
        by_cases h2 : bt s (e.2 % 10) = true
        · rw [if_pos h2, decide_eq_true ((hs _ (by omega)).mp h2)]
          exact hrec
        · rw [if_neg h2, decide_eq_false (fun q => h2 ((hs _ (by omega)).mpr q))]; rfl
      · rw [if_neg (fun q => h1 ((nI_eq (by omega) (by omega)).mp q)), decide_eq_false h1, Bool.false_and]
        exact hrec
  have := key E 0 kFU rfl (Nat.zero_le _) (kFU_b (by omega))
  rw [mX3_firstWayOn]
  exact this
theorem fwP_some {P : List Nat} {v p : Nat} {met : List Nat} (h : fwP P v met = some p) : p ∈ P ∧ p / 10 = v ∧ p % 10 ∉ met := by
  have h1 := List.mem_of_find?_eq_some h
  have h2 := List.find?_some h
  simp only [Bool.and_eq_true, decide_eq_true_eq, Bool.not_eq_true', decide_eq_false_iff_not] at h2
  exact ⟨h1, h2.1, h2.2⟩
theorem okE_p {p : Nat} (hE : okE E) (h : p ∈ ePr E) : p < 80 ∧ p % 10 < 8 ∧ p / 10 ≠ p % 10 := by
  obtain ⟨e, he, rfl⟩ := List.mem_map.mp h
  exact (hE.2.1 e he).2
/-- those met, each but the first led to by one ahead of it -/
def metOK (P : List Nat) (met : List Nat) : Prop := met.Nodup ∧ (∀ x, x ∈ met → x < 8) ∧ (∃ t, met = 0 :: t) ∧ ∀ p v q, met = p ++ v :: q → p ≠ [] → ∃ u, u ∈ p ∧ 10 * u + v ∈ P
theorem metOK.push {P met : List Nat} {v p : Nat} (h : metOK P met) (hv : v ∈ met) (hp : p ∈ P) (h1 : p / 10 = v) (h2 : p % 10 ∉ met) (h3 : p % 10 < 8) : metOK P (met ++ [p % 10]) := by
  obtain ⟨a, b, ⟨t, c⟩, d⟩ := h
  refine ⟨?_, ?_, ⟨t ++ [p % 10], by rw [c]; rfl⟩, ?_⟩
  · rw [List.nodup_append]
    exact ⟨a, (nodup1 _), fun x hx y hy e => by rw [List.mem_singleton] at hy; subst hy; subst e; exact h2 hx⟩
  · intro x hx
    rcases List.mem_append.mp hx with q | q
    · exact b x q
    · rw [List.mem_singleton] at q; subst q; exact h3
  · intro p' x q' e hne
    rcases split_app e with ⟨q2, e1, -⟩ | ⟨p2, e1, e2⟩
    · exact d p' x q2 e1 hne
    · cases p2 with
      | nil =>
        simp only [List.nil_append, List.cons.injEq] at e2
        obtain ⟨rfl, -⟩ := e2
        rw [List.append_nil] at e1
        exact ⟨v, by rw [e1]; exact hv, by rw [show 10 * v + p % 10 = p by omega]; exact hp⟩
      | cons y p2 =>
        simp only [List.cons_append, List.cons.injEq] at e2
        exact absurd e2.2.symm (by simp)
theorem metOK.zero (P : List Nat) : metOK P [0] := by
  refine ⟨(nodup1 _), fun x hx => by rw [List.mem_singleton] at hx; omega, ⟨[], rfl⟩, fun p v q e hne => ?_⟩
  cases p with
  | nil => exact absurd rfl hne
  | cons a p => simp at e
theorem metOK.len {P met : List Nat} (h : metOK P met) : met.length ≤ 8 := nodup8 h.1 h.2.1
/-- the class's walk -/
theorem go_n (h : edR sz f E) (hE : okE E) (k1 : Int64) (k2 k4 : Int32) (f3 f5 : Nat → Int32) : ∃ g ms mf ps pf met, mX9_go k1 k2 f3 k4 f5 sz f = some (g, ms, mf, ps, pf) ∧ mX3_grid sz f = some g ∧ met = walkP (ePr E) 16 [0] [0] ∧ rowR 8 ms mf (met.map nI) ∧ metOK (ePr E) met := by
  obtain ⟨g, eg, -⟩ := ed_grid h hE
  have key : ∀ (j stp fuel : Nat) (fd : Int32) (met st : List Nat) (ms ps : Int32) (mf pf : Nat → Int32), stp + j = 16 → j < fuel → stp + st.length + 1 = 2 * met.length → (∀ t, t < 8 → (bt fd t = true ↔ t ∈ met)) → metOK (ePr E) met → (∀ x, x ∈ st → x ∈ met) → st.Nodup → rowR 8 ms mf (met.map nI) → rowR 8 ps pf (st.reverse.map nI) → ∃ ms' mf' ps' pf' met', mX9_go_L45 sz f g fuel fd (nI stp) ms mf ps pf = some (g, ms', mf', ps', pf') ∧ met' = walkP (ePr E) j met st ∧ rowR 8 ms' mf' (met'.map nI) ∧ metOK (ePr E) met' := by
    intro j
    induction j with
    | zero =>
      intro stp fuel fd met st ms ps mf pf hj hf hlen hfd hok hsub hnd hrm hrp
      have := hok.len
      omega
    | succ j ih =>
      intro stp fuel fd met st ms ps mf pf hj hf hlen hfd hok hsub hnd hrm hrp
      obtain ⟨m, rfl⟩ := fuel_s hf
      have hl8 := hok.len
      have hpl : ps = nI st.length := by have := hrp.1; rwa [List.length_map, List.length_reverse] at this
      rw [mX9_go_L45, if_neg (show ¬ (16 : Int32) ≤ nI stp from fun q => by have := (nI_leI (a := 16) (by omega) (by omega)).mp q; omega), mX6_size]
      cases st with
      | nil =>
        rw [if_pos (by rw [hpl]; decide)]
        exact ⟨ms, mf, ps, pf, met, rfl, (walkP_nil _ _ _).symm, hrm, hok⟩
      | cons v st =>
        have hstl : st.length + 1 ≤ 8 := nodup8 hnd (fun x hx => hok.2.1 x (hsub x hx))
        have hvm : v ∈ met := hsub v List.mem_cons_self
        have hv8 := hok.2.1 v hvm
        rw [List.length_cons] at hpl hlen
        have hrev : (v :: st).reverse.map nI = st.reverse.map nI ++ [nI v] := by rw [List.reverse_cons, List.map_append]; rfl
        rw [hrev] at hrp
        have htop : mX6_at 8 ps pf (ps - 1) = nI v := by
          rw [hpl, nI_pred, ← hpl, at_n hrp (by omega), List.getD_eq_getElem?_getD, List.getElem?_append_right (by rw [List.length_map, List.length_reverse]; omega), List.length_map, List.length_reverse, Nat.sub_self]; rfl
        rw [if_neg (by rw [hpl]; exact nI_nle (by omega) (by omega)), htop, ed_way h hE hv8 hfd, Option.bind_some]
        cases hfw : fwP (ePr E) v met with
        | none =>
          obtain ⟨pf2, e2, r2⟩ := takeLast_n hrp
          rw [List.length_map, List.length_reverse] at e2 r2
          show ∃ ms' mf' ps' pf' met', (if (-9 : Int32) = -9 then _ else _) = _ ∧ _
          rw [if_pos rfl, e2, Option.bind_some, nI_1]
          obtain ⟨ms', mf', ps', pf', met', q1, q2, q3, q4⟩ := ih (stp + 1) m fd met st ms (nI st.length) mf pf2 (by omega) (by omega) (by omega) hfd hok (fun x hx => hsub x (List.mem_cons_of_mem _ hx)) (List.nodup_cons.mp hnd).2 hrm r2
          exact ⟨ms', mf', ps', pf', met', q1, by rw [q2, walkP, hfw], q3, q4⟩
        | some p =>
          obtain ⟨p1, p2, p3⟩ := fwP_some hfw
          obtain ⟨-, p5, -⟩ := okE_p hE p1
          have hok2 := hok.push hvm p1 p2 p3 p5
          have hl2 := hok2.len
          rw [List.length_append, List.length_singleton] at hl2
          have hnd2 : (p % 10 :: v :: st).Nodup := List.nodup_cons.mpr ⟨fun q => p3 (hsub _ q), hnd⟩
          have hst2 : st.length + 2 ≤ 8 := nodup8 hnd2 (fun x hx => by
            rcases List.mem_cons.mp hx with q | q
            · subst q; exact p5
            · exact hok.2.1 x (hsub x q))
          obtain ⟨mf2, e3, r3⟩ := add_n hrm (by rw [List.length_map]; omega) (nI (p % 10))
          obtain ⟨pf2, e4, r4⟩ := add_n hrp (by rw [List.length_append, List.length_map, List.length_reverse, List.length_singleton]; omega) (nI (p % 10))
          show ∃ ms' mf' ps' pf' met', (if nI (p % 10) = -9 then _ else _) = _ ∧ _
          rw [if_neg (fun q => (i_ne9 (a := p % 10) (by omega)).mp q), e3, Option.bind_some, e4, Option.bind_some, nI_1]
          obtain ⟨ms', mf', ps', pf', met', q1, q2, q3, q4⟩ := ih (stp + 1) m (fd ||| mX5_only (nI (p % 10))) (met ++ [p % 10]) (p % 10 :: v :: st) _ _ mf2 pf2 (by omega) (by omega) (by rw [List.length_append, List.length_singleton, List.length_cons, List.length_cons]; omega) (fun t ht => by rw [b_or, only_b (by omega), Bool.or_eq_true, decide_eq_true_eq, hfd t ht, List.mem_append, List.mem_singleton]) hok2 (fun x hx => by
            rcases List.mem_cons.mp hx with q | q
            · exact List.mem_append_right _ (List.mem_singleton.mpr q)
            · exact List.mem_append_left _ (hsub x q)) hnd2 (by rw [List.map_append]; exact r3) (by rw [List.reverse_cons, List.map_append, hrev]; exact r4)
          exact ⟨ms', mf', ps', pf', met', q1, by rw [q2, walkP, hfw], q3, q4⟩
  obtain ⟨mf, e1, r1⟩ := add_n (n := 8) (sz := 0) (f := f3) (xs := []) (rowR.nil (by omega)) (by simp) (nI 0)
  obtain ⟨pf, e2, r2⟩ := add_n (n := 8) (sz := 0) (f := f5) (xs := []) (rowR.nil (by omega)) (by simp) (nI 0)
  obtain ⟨ms', mf', ps', pf', met', q1, q2, q3, q4⟩ := key 16 0 kFU (mX5_only 0) [0] [0] _ _ mf pf rfl (kFU_b (by omega)) rfl (fun t ht => by rw [show (0 : Int32) = nI 0 from rfl, only_b (by omega), decide_eq_true_eq, List.mem_singleton]) (metOK.zero _) (fun _ hx => hx) ((nodup1 _)) r1 r2
  refine ⟨g, ms', mf', ps', pf', met', ?_, eg, q2, q3, q4⟩
  rw [mX9_go, eg, Option.bind_some, mX6_clear, mX6_clear]
  rw [show (0 : Int32) = nI 0 from rfl] at *
  rw [e1, Option.bind_some, e2, Option.bind_some]
  exact q1
end WK
