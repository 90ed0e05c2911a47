/-! showings as ways of going on from a set of placed knots -/
section EXT
variable {E : Nat → Nat → Prop}
def NxS (E : Nat → Nat → Prop) (S : Nat → Prop) (v : Nat) : Prop := RA E v ∧ ¬ S v ∧ (∃ l, isLid E l v ∧ S l) ∧ ∀ k, S k → (∃ x, Cov E k x ∧ ¬ S x) → Cov E k v
def ShS (E : Nat → Nat → Prop) (S : Nat → Prop) (v : Nat) : Prop := (∃ l, isLid E l v ∧ E l v) ∨ ((∃ x, S x ∧ E x v) ∧ ∃ y, RA E y ∧ ¬ S y ∧ E y v ∧ ¬ Cov E v y)
def Ext (E : Nat → Nat → Prop) : (Nat → Prop) → List Nat → Prop
  | S, [] => ∀ v, RA E v → S v
  | S, v :: q => NxS E S v ∧ ShS E S v ∧ Ext E (fun x => S x ∨ x = v) q
theorem Ext.same {S S' : Nat → Prop} {q : List Nat} (h : Ext E S q) (e : ∀ x, S x ↔ S' x) : Ext E S' q := by
  have : S = S' := funext fun x => propext (e x)
  rw [← this]; exact h
theorem first_split (P : Nat → Prop) : ∀ (l : List Nat), (∃ x, x ∈ l ∧ P x) → ∃ s x s', l = s ++ x :: s' ∧ P x ∧ ∀ y, y ∈ s → ¬ P y := by
  intro l
  induction l with
  | nil => rintro ⟨x, h, -⟩; exact absurd h List.not_mem_nil
  | cons a l ih =>
    rintro ⟨x, hx, hP⟩
    by_cases ha : P a
    · exact ⟨[], a, l, rfl, ha, fun y hy => absurd hy List.not_mem_nil⟩
    · have : x ∈ l := by
        rcases List.mem_cons.mp hx with q | q
        · subst q; exact absurd hP ha
        · exact q
      obtain ⟨s, z, s', e, hz, hn⟩ := ih ⟨x, this, hP⟩
      refine ⟨a :: s, z, s', by rw [e]; rfl, hz, fun y hy => ?_⟩
      rcases List.mem_cons.mp hy with q | q
      · subst q; exact ha
      · exact hn y q
theorem last_ex : ∀ (l : List Nat), l ≠ [] → ∃ p u, l = p ++ [u] := by
  intro l
  induction l with
  | nil => intro h; exact absurd rfl h
  | cons a l ih =>
    intro _
    cases l with
    | nil => exact ⟨[], a, rfl⟩
    | cons b l =>
      obtain ⟨p, u, e⟩ := ih (by simp)
      exact ⟨a :: p, u, by rw [e]; rfl⟩
theorem last_eq {p p' : List Nat} {u u' : Nat} (h : p ++ [u] = p' ++ [u']) : p = p' ∧ u = u' := by
  obtain ⟨h1, h2⟩ := List.append_inj' h rfl
  exact ⟨h1, by simpa using h2⟩
theorem VRow.closed {T : List Nat} (h : VRow E T) : ∀ (n : Nat) (p : List Nat) (u : Nat) (s : List Nat), p.length ≤ n → T = p ++ u :: s → ∀ c, Cov E c u → c ∈ p ++ [u] := by
  obtain ⟨h1, h2, ⟨t, h3⟩, h4⟩ := h
  intro n
  induction n with
  | zero =>
    intro p u s hn e c hc
    have hp : p = [] := List.length_eq_zero_iff.mp (by omega)
    subst hp
    rw [h3, List.nil_append, List.cons.injEq] at e
    have := e.1
    subst this
    rw [hc.of_root]; exact List.mem_singleton.mpr rfl
  | succ n ih =>
    intro p u s hn e c hc
    by_cases hp : p = []
    · subst hp
      rw [h3, List.nil_append, List.cons.injEq] at e
      have := e.1
      subst this
      rw [hc.of_root]; exact List.mem_singleton.mpr rfl
    · obtain ⟨⟨l, hl, p', w, ep, hw⟩, -⟩ := h4 p u s e hp
      by_cases hcu : c = u
      · rw [hcu]; exact List.mem_append_right _ (List.mem_singleton.mpr rfl)
      · have hcl := hl.2.2 c hc hcu
        have := ih p' w (u :: s) (by rw [ep, List.length_append, List.length_singleton] at hn; omega) (by rw [e, ep, List.append_assoc]; rfl) c (hcl.trans hw)
        rw [ep]; exact List.mem_append_left _ this
theorem ext_of_vrow {T : List Nat} (h : VRow E T) : ∀ (q p : List Nat), T = p ++ q → p ≠ [] → Ext E (fun x => x ∈ p) q := by
  have hcl := h.closed
  obtain ⟨h1, h2, ⟨t, h3⟩, h4⟩ := h
  intro q
  induction q with
  | nil =>
    intro p e _ v hv
    rw [List.append_nil] at e
    rw [← e]; exact (h1 v).mpr hv
  | cons v q ih =>
    intro p e hp
    have hnd := h2
    rw [e, List.nodup_append] at hnd
    have hvp : v ∉ p := fun z => hnd.2.2 v z v List.mem_cons_self rfl
    obtain ⟨⟨l, hl, p', u, ep, hu⟩, hsh⟩ := h4 p v q e hp
    have hlp : l ∈ p := by
      rw [ep]
      exact hcl p'.length p' u (v :: q) (Nat.le_refl _) (by rw [e, ep, List.append_assoc]; rfl) l hu
    refine ⟨⟨(h1 v).mp (by rw [e]; exact List.mem_append_right _ List.mem_cons_self), hvp, ⟨l, hl, hlp⟩, fun k hk ⟨x, hx, hxp⟩ => ?_⟩, ?_, ?_⟩
    · have hxq : x ∈ v :: q := by
        have : x ∈ T := (h1 x).mpr hx.ra2
        rw [e] at this
        rcases List.mem_append.mp this with z | z
        · exact absurd z hxp
        · exact z
      obtain ⟨s, z, s', es, hz, hno⟩ := first_split (fun x => Cov E k x) (v :: q) ⟨x, hxq, hx⟩
      by_cases hs : s = []
      · subst hs
        rw [List.nil_append, List.cons.injEq] at es
        rw [es.1]; exact hz
      · exfalso
        obtain ⟨s2, w, ew⟩ := last_ex s hs
        have eT : T = (p ++ s) ++ z :: s' := by rw [e, es, List.append_assoc]
        obtain ⟨⟨l2, hl2, p2, w2, ep2, hw2⟩, -⟩ := h4 (p ++ s) z s' eT (by simp [hs])
        rw [ew, ← List.append_assoc] at ep2
        obtain ⟨-, rfl⟩ := last_eq ep2
        have hkz : k ≠ z := by
          intro y
          subst y
          exact hnd.2.2 k hk k (by rw [es]; exact List.mem_append_right _ List.mem_cons_self) rfl
        exact hno w (by rw [ew]; exact List.mem_append_right _ (List.mem_singleton.mpr rfl)) ((hl2.2.2 k hz hkz).trans hw2)
    · rcases hsh with z | ⟨a, y, y1, y2, y3⟩
      · exact Or.inl z
      · refine Or.inr ⟨a, y, (h1 y).mp (by rw [e]; exact List.mem_append_right _ (List.mem_cons_of_mem _ y1)), fun z => hnd.2.2 y z y (List.mem_cons_of_mem _ y1) rfl, y2, y3⟩
    · refine (ih (p ++ [v]) (by rw [e, List.append_assoc]; rfl) (by simp)).same fun x => ?_
      rw [List.mem_append, List.mem_singleton]
theorem nodup_of : ∀ (T : List Nat), (∀ p v q, T = p ++ v :: q → v ∉ p) → T.Nodup := by
  intro T
  induction T with
  | nil => intro _; exact List.nodup_nil
  | cons a T ih =>
    intro h
    refine List.nodup_cons.mpr ⟨fun z => ?_, ih fun p v q e z => h (a :: p) v q (by rw [e]; rfl) (List.mem_cons_of_mem _ z)⟩
    obtain ⟨s, t, e⟩ := List.append_of_mem z
    exact h (a :: s) a t (by rw [e]; rfl) List.mem_cons_self
theorem steps_of_ext : ∀ (q p : List Nat), Ext E (fun x => x ∈ p) q → (∀ p1 v p2, p = p1 ++ v :: p2 → p1 ≠ [] → NxS E (fun x => x ∈ p1) v ∧ ShS E (fun x => x ∈ p1) v) → p ≠ [] → (∀ p1 v p2, p ++ q = p1 ++ v :: p2 → p1 ≠ [] → NxS E (fun x => x ∈ p1) v ∧ ShS E (fun x => x ∈ p1) v) ∧ ∀ v, RA E v → v ∈ p ++ q := by
  intro q
  induction q with
  | nil =>
    intro p h hp _
    rw [List.append_nil]
    exact ⟨hp, h⟩
  | cons v q ih =>
    intro p h hp hne
    obtain ⟨a, b, c⟩ := h
    have := ih (p ++ [v]) (c.same fun x => by rw [List.mem_append, List.mem_singleton]) (fun p1 w p2 e hn => by
      rcases split_app e with ⟨q', e1, -⟩ | ⟨p', e1, e2⟩
      · exact hp p1 w q' e1 hn
      · cases p' with
        | nil =>
          simp only [List.nil_append, List.cons.injEq] at e2
          rw [List.append_nil] at e1
          rw [e1, ← e2.1]; exact ⟨a, b⟩
        | cons y p' => simp at e2) (by simp)
    rw [List.append_assoc, List.singleton_append] at this
    exact this
theorem vrow_of_ext {q : List Nat} (h : Ext E (fun x => x = 0) q) : VRow E (0 :: q) := by
  obtain ⟨hs, hf⟩ := steps_of_ext q [0] (h.same fun x => (List.mem_singleton).symm) (fun p1 v p2 e hn => by
    cases p1 with
    | nil => exact absurd rfl hn
    | cons a p1 => simp at e) (by simp)
  rw [List.singleton_append] at hs hf
  have hra : ∀ v, v ∈ 0 :: q → RA E v := fun v hv => by
    obtain ⟨s, t, e⟩ := List.append_of_mem hv
    by_cases hn : s = []
    · subst hn
      rw [List.nil_append, List.cons.injEq] at e
      rw [← e.1]; exact RA.root
    · exact (hs s v t e hn).1.1
  have hnd : (0 :: q).Nodup := nodup_of _ fun p v q' e => by
    by_cases hn : p = []
    · subst hn; exact List.not_mem_nil
    · exact (hs p v q' e hn).1.2.1
  refine ⟨fun v => ⟨hra v, hf v⟩, hnd, ⟨q, rfl⟩, fun p v q' e hn => ?_⟩
  obtain ⟨⟨n1, n2, ⟨l, hl, hlp⟩, n4⟩, sh⟩ := hs p v q' e hn
  constructor
  · obtain ⟨p', u, ep⟩ := last_ex p hn
    refine ⟨l, hl, p', u, ep, ?_⟩
    have hun : ∃ x, Cov E l x ∧ ¬ x ∈ p := ⟨v, hl.1, n2⟩
    have hu : u ∈ 0 :: q := by rw [e, ep]; simp
    rw [ep] at hlp
    rcases List.mem_append.mp hlp with z | z
    · have hn' : p' ≠ [] := fun y => by subst y; exact absurd z List.not_mem_nil
      obtain ⟨⟨m1, m2, m3, m4⟩, -⟩ := hs p' u (v :: q') (by rw [e, ep, List.append_assoc]; rfl) hn'
      obtain ⟨x, hx, hxp⟩ := hun
      exact m4 l z ⟨x, hx, fun y => hxp (by rw [ep]; exact List.mem_append_left _ y)⟩
    · rw [List.mem_singleton] at z
      rw [z]; exact Cov.self (hra u hu)
  · rcases sh with z | ⟨a, y, y1, y2, y3, y4⟩
    · exact Or.inl z
    · refine Or.inr ⟨a, y, ?_, y3, y4⟩
      have hy := hf y y1
      rw [e] at hy
      rcases List.mem_append.mp hy with w | w
      · exact absurd w y2
      · rcases List.mem_cons.mp w with w | w
        · exact absurd (by rw [w]; exact Cov.self n1) y4
        · exact w
theorem vrow_iff {T : List Nat} : VRow E T ↔ ∃ q, T = 0 :: q ∧ Ext E (fun x => x = 0) q := by
  constructor
  · intro h
    obtain ⟨t, e⟩ := h.2.2.1
    exact ⟨t, e, (ext_of_vrow h t [0] e (by simp)).same fun x => List.mem_singleton⟩
  · rintro ⟨q, e, h⟩
    rw [e]; exact vrow_of_ext h
end EXT
/-- the least first -/
def LLe : List Nat → List Nat → Prop
  | [], _ => True
  | _ :: _, [] => False
  | a :: p, b :: q => a < b ∨ (a = b ∧ LLe p q)
theorem LLe.refl : ∀ l, LLe l l
  | [] => trivial
  | _ :: l => Or.inr ⟨rfl, LLe.refl l⟩
theorem LLe.anti : ∀ {a b : List Nat}, LLe a b → LLe b a → a = b
  | [], [], _, _ => rfl
  | [], _ :: _, _, h => absurd h id
  | _ :: _, [], h, _ => absurd h id
  | a :: p, b :: q, h1, h2 => by
    rcases h1 with h1 | ⟨h1, h3⟩
    · rcases h2 with h2 | ⟨h2, _⟩ <;> omega
    · subst h1
      rcases h2 with h2 | ⟨_, h4⟩
      · omega
      · rw [LLe.anti h3 h4]
def isLeast (E : Nat → Nat → Prop) (T : List Nat) : Prop := VRow E T ∧ ∀ T', VRow E T' → LLe T T'
theorem isLeast.uniq {E : Nat → Nat → Prop} {T T' : List Nat} (h : isLeast E T) (h' : isLeast E T') : T = T' := LLe.anti (h.2 T' h'.1) (h'.2 T h.1)
