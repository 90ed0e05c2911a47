/-! the next row in order -/
def Asc (l : List Nat) : Prop := l.Pairwise (· < ·)
def Dsc (l : List Nat) : Prop := l.Pairwise (fun a b => b < a)
theorem same_tail {a : Nat} {s t : List Nat} (hs : (a :: s).Nodup) (ht : (a :: t).Nodup) (h : ∀ z, z ∈ a :: s ↔ z ∈ a :: t) : ∀ z, z ∈ s ↔ z ∈ t := by
  have key : ∀ (s t : List Nat), (a :: s).Nodup → (∀ z, z ∈ a :: s ↔ z ∈ a :: t) → ∀ z, z ∈ s → z ∈ t := by
    intro s t hs h z hz
    rcases List.mem_cons.mp ((h z).mp (List.mem_cons_of_mem _ hz)) with q | q
    · subst q; exact absurd hz (List.nodup_cons.mp hs).1
    · exact q
  exact fun z => ⟨key s t hs h z, key t s ht (fun z => (h z).symm) z⟩
theorem nodup_of_asc {l : List Nat} (h : Asc l) : l.Nodup := List.Pairwise.imp (fun q => by omega) h
theorem nodup_of_dsc {l : List Nat} (h : Dsc l) : l.Nodup := List.Pairwise.imp (fun q => by omega) h
theorem asc_least : ∀ (A t : List Nat), Asc A → t.Nodup → (∀ z, z ∈ t ↔ z ∈ A) → LLe A t := by
  intro A
  induction A with
  | nil => intro t _ _ _; trivial
  | cons a A ih =>
    intro t hA ht h
    cases t with
    | nil => exact absurd ((h a).mpr List.mem_cons_self) List.not_mem_nil
    | cons b t =>
      have hA2 := List.pairwise_cons.mp hA
      rcases List.mem_cons.mp ((h b).mp List.mem_cons_self) with q | q
      · subst q
        exact Or.inr ⟨rfl, ih t hA2.2 (List.nodup_cons.mp ht).2 (same_tail ht (nodup_of_asc hA) h)⟩
      · exact Or.inl (hA2.1 b q)
theorem dsc_most : ∀ (A t : List Nat), Dsc A → t.Nodup → (∀ z, z ∈ t ↔ z ∈ A) → LLe t A := by
  intro A
  induction A with
  | nil =>
    intro t _ _ h
    cases t with
    | nil => trivial
    | cons b t => exact absurd ((h b).mp List.mem_cons_self) List.not_mem_nil
  | cons a A ih =>
    intro t hA ht h
    cases t with
    | nil => trivial
    | cons b t =>
      have hA2 := List.pairwise_cons.mp hA
      rcases List.mem_cons.mp ((h b).mp List.mem_cons_self) with q | q
      · subst q
        exact Or.inr ⟨rfl, ih t hA2.2 (List.nodup_cons.mp ht).2 (same_tail ht (nodup_of_dsc hA) h)⟩
      · exact Or.inl (hA2.1 b q)
theorem asc_rev {l : List Nat} (h : Dsc l) : Asc l.reverse := by
  unfold Asc
  rw [List.pairwise_reverse]
  exact h
/-- the next row: none lies between -/
theorem next_le : ∀ (p : List Nat) (x y : Nat) (s1 s2 T' : List Nat), (p ++ x :: (s1 ++ y :: s2)).Nodup → Dsc (s1 ++ y :: s2) → x < y → (∀ z, z ∈ s2 → z < x) → T'.Nodup → (∀ z, z ∈ T' ↔ z ∈ p ++ x :: (s1 ++ y :: s2)) → LLe (p ++ x :: (s1 ++ y :: s2)) T' → p ++ x :: (s1 ++ y :: s2) ≠ T' → LLe (p ++ y :: (s1 ++ x :: s2).reverse) T' := by
  intro p
  induction p with
  | cons a p ih =>
    intro x y s1 s2 T' hT hd hxy hz hn hm hl hne
    cases T' with
    | nil => exact absurd hl id
    | cons b t =>
      rcases hl with q | ⟨rfl, q⟩
      · exact Or.inl q
      · exact Or.inr ⟨rfl, ih x y s1 s2 t (List.nodup_cons.mp hT).2 hd hxy hz (List.nodup_cons.mp hn).2 (same_tail hn hT hm) q (fun e => hne (by rw [← e]; rfl))⟩
  | nil =>
    intro x y s1 s2 T' hT hd hxy hz hn hm hl hne
    rw [List.nil_append] at hT hm hl hne ⊢
    cases T' with
    | nil => exact absurd hl id
    | cons b t =>
      rcases hl with q | ⟨rfl, q⟩
      · have hb : b ∈ s1 ++ y :: s2 := by
          rcases List.mem_cons.mp ((hm b).mp List.mem_cons_self) with z | z
          · omega
          · exact z
        have hd2 := List.pairwise_append.mp hd
        rcases List.mem_append.mp hb with z | z
        · exact Or.inl (hd2.2.2 b z y List.mem_cons_self)
        · rcases List.mem_cons.mp z with z | z
          · subst z
            refine Or.inr ⟨rfl, asc_least _ _ (asc_rev ?_) (List.nodup_cons.mp hn).2 fun z => ?_⟩
            · have h1 := hd2.1
              have h2 := List.pairwise_cons.mp hd2.2.1
              refine List.pairwise_append.mpr ⟨h1, List.pairwise_cons.mpr ⟨hz, h2.2⟩, fun u hu w hw => ?_⟩
              have h3 := hd2.2.2 u hu b List.mem_cons_self
              rcases List.mem_cons.mp hw with y | y
              · omega
              · have := hz w y; omega
            · rw [List.mem_reverse]
              have hTn := List.nodup_cons.mp hT
              have hsn := List.nodup_append.mp hTn.2
              have hbs2 := (List.nodup_cons.mp hsn.2.1).1
              have hbt := (List.nodup_cons.mp hn).1
              have hzm := hm z
              simp only [List.mem_cons, List.mem_append] at hzm ⊢
              constructor
              · intro hzt
                have hzb : z ≠ b := fun e => by subst e; exact hbt hzt
                rcases hzm.mp (Or.inr hzt) with e | e | e | e
                · exact Or.inr (Or.inl e)
                · exact Or.inl e
                · exact absurd e hzb
                · exact Or.inr (Or.inr e)
              · intro hz'
                have hzb : z ≠ b := by
                  intro ezb
                  rcases hz' with e | e | e
                  · exact hsn.2.2 z e b List.mem_cons_self ezb
                  · omega
                  · rw [ezb] at e; exact hbs2 e
                have : z = b ∨ z ∈ t := hzm.mpr (by
                  rcases hz' with e | e | e
                  · exact Or.inr (Or.inl e)
                  · exact Or.inl e
                  · exact Or.inr (Or.inr (Or.inr e)))
                exact this.resolve_left hzb
          · have := hz b z; omega
      · exfalso
        have h1 := dsc_most _ t hd (List.nodup_cons.mp hn).2 (same_tail hn hT hm)
        exact hne (by rw [q.anti h1])
/-- a row as a number -/
def valR : List Nat → Nat
  | [] => 0
  | a :: l => a * 8 ^ l.length + valR l
theorem valR_lt : ∀ (l : List Nat), (∀ x, x ∈ l → x < 8) → valR l < 8 ^ l.length := by
  intro l
  induction l with
  | nil => intro _; decide
  | cons a l ih =>
    intro h
    have h1 := ih fun x hx => h x (List.mem_cons_of_mem _ hx)
    have h2 := h a List.mem_cons_self
    rw [valR, List.length_cons, Nat.pow_succ]
    have : a * 8 ^ l.length ≤ 7 * 8 ^ l.length := Nat.mul_le_mul_right _ (by omega)
    omega
theorem valR_step : ∀ (p : List Nat) (x y : Nat) (s s' : List Nat), s.length = s'.length → (∀ z, z ∈ s → z < 8) → x < y → valR (p ++ x :: s) < valR (p ++ y :: s') := by
  intro p
  induction p with
  | nil =>
    intro x y s s' hl hs hxy
    rw [List.nil_append, List.nil_append, valR, valR, ← hl]
    have h1 := valR_lt s hs
    have : (x + 1) * 8 ^ s.length ≤ y * 8 ^ s.length := Nat.mul_le_mul_right _ hxy
    rw [Nat.succ_mul] at this
    omega
  | cons a p ih =>
    intro x y s s' hl hs hxy
    have := ih x y s s' hl hs hxy
    rw [List.cons_append, List.cons_append, valR, valR]
    have e : (p ++ x :: s).length = (p ++ y :: s').length := by simp [hl]
    rw [e]
    omega
theorem last_split (P : Nat → Prop) : ∀ (l : List Nat), (∃ x, x ∈ l ∧ P x) → ∃ s x s', l = s ++ x :: s' ∧ P x ∧ ∀ y, y ∈ s' → ¬ P y := by
  intro l
  induction l with
  | nil => rintro ⟨x, h, -⟩; exact absurd h List.not_mem_nil
  | cons a l ih =>
    rintro ⟨x, hx, hP⟩
    by_cases hl : ∃ x, x ∈ l ∧ P x
    · obtain ⟨s, z, s', e, hz, hn⟩ := ih hl
      exact ⟨a :: s, z, s', by rw [e]; rfl, hz, hn⟩
    · refine ⟨[], a, l, rfl, ?_, fun y hy q => hl ⟨y, hy, q⟩⟩
      rcases List.mem_cons.mp hx with q | q
      · subst q; exact hP
      · exact absurd ⟨x, q, hP⟩ hl
/-! what is wrong first in a row that is told -/
def PlOK (E : Nat → Nat → Prop) (p : List Nat) (v : Nat) : Prop := RA E v ∧ v ∉ p ∧ (p = [] → v = 0) ∧ (p ≠ [] → Behind E p v)
noncomputable def fw1 (E : Nat → Nat → Prop) : List Nat → List Nat → Option Nat
  | _, [] => none
  | p, v :: q => @ite _ (PlOK E p v) (Classical.propDecidable _) (fw1 E (p ++ [v]) q) (some p.length)
noncomputable def fw2 (E : Nat → Nat → Prop) : List Nat → List Nat → Option Nat
  | _, [] => none
  | p, v :: q => @ite _ (p = [] ∨ Shn E p v q) (Classical.propDecidable _) (fw2 E (p ++ [v]) q) (some p.length)
noncomputable def fwR (E : Nat → Nat → Prop) (T : List Nat) : Int32 := match fw1 E [] T with
  | some i => nI i
  | none => match fw2 E [] T with
    | some i => nI i
    | none => -9
theorem fw1_none {E : Nat → Nat → Prop} : ∀ (q p : List Nat), fw1 E p q = none ↔ ∀ q1 v q2, q = q1 ++ v :: q2 → PlOK E (p ++ q1) v := by
  intro q
  induction q with
  | nil => intro p; exact ⟨fun _ q1 v q2 e => by simp at e, fun _ => rfl⟩
  | cons a q ih =>
    intro p
    rw [fw1]
    by_cases h : PlOK E p a
    · rw [if_pos h, ih]
      constructor
      · intro z q1 v q2 e
        cases q1 with
        | nil =>
          rw [List.nil_append, List.cons.injEq] at e
          rw [List.append_nil, ← e.1]; exact h
        | cons b q1 =>
          rw [List.cons_append, List.cons.injEq] at e
          have := z q1 v q2 e.2
          rw [List.append_assoc, List.singleton_append, e.1] at this
          exact this
      · intro z q1 v q2 e
        rw [List.append_assoc, List.singleton_append]
        exact z (a :: q1) v q2 (by rw [e]; rfl)
    · rw [if_neg h]
      exact ⟨fun z => (by cases z), fun z => absurd (by have := z [] a q rfl; rwa [List.append_nil] at this) h⟩
theorem fw2_none {E : Nat → Nat → Prop} : ∀ (q p : List Nat), fw2 E p q = none ↔ ∀ q1 v q2, q = q1 ++ v :: q2 → (p ++ q1 = [] ∨ Shn E (p ++ q1) v q2) := by
  intro q
  induction q with
  | nil => intro p; exact ⟨fun _ q1 v q2 e => by simp at e, fun _ => rfl⟩
  | cons a q ih =>
    intro p
    rw [fw2]
    by_cases h : p = [] ∨ Shn E p a q
    · rw [if_pos h, ih]
      constructor
      · intro z q1 v q2 e
        cases q1 with
        | nil =>
          rw [List.nil_append, List.cons.injEq] at e
          rw [List.append_nil, ← e.1, ← e.2]; exact h
        | cons b q1 =>
          rw [List.cons_append, List.cons.injEq] at e
          have := z q1 v q2 e.2
          rw [List.append_assoc, List.singleton_append, e.1] at this
          exact this
      · intro z q1 v q2 e
        rw [List.append_assoc, List.singleton_append]
        exact z (a :: q1) v q2 (by rw [e]; rfl)
    · rw [if_neg h]
      exact ⟨fun z => (by cases z), fun z => absurd (by have := z [] a q rfl; rwa [List.append_nil] at this) h⟩
theorem fw_lt {E : Nat → Nat → Prop} : ∀ (q p : List Nat) (i : Nat), (fw1 E p q = some i → i < p.length + q.length) ∧ (fw2 E p q = some i → i < p.length + q.length) := by
  intro q
  induction q with
  | nil => intro p i; exact ⟨fun h => (by cases h), fun h => (by cases h)⟩
  | cons a q ih =>
    intro p i
    have hi := ih (p ++ [a]) i
    rw [List.length_append, List.length_singleton] at hi
    rw [fw1, fw2, List.length_cons]
    constructor
    · by_cases h : PlOK E p a
      · rw [if_pos h]; intro z; have := hi.1 z; omega
      · rw [if_neg h, Option.some.injEq]; intro z; omega
    · by_cases h : p = [] ∨ Shn E p a q
      · rw [if_pos h]; intro z; have := hi.2 z; omega
      · rw [if_neg h, Option.some.injEq]; intro z; omega
theorem fwR_9 {E : Nat → Nat → Prop} {T : List Nat} (hl : T.length ≤ 8) : fwR E T = -9 ↔ (∀ p v q, T = p ++ v :: q → PlOK E p v ∧ (p = [] ∨ Shn E p v q)) := by
  unfold fwR
  cases h1 : fw1 E [] T with
  | some i =>
    have hi := (fw_lt (E := E) T [] i).1 h1
    rw [List.length_nil, Nat.zero_add] at hi
    refine ⟨fun q => absurd q (by show ¬ nI i = -9; rw [i_ne9 (by omega)]; exact id), fun q => ?_⟩
    have := (fw1_none (E := E) T []).mpr fun q1 v q2 e => (q q1 v q2 e).1
    rw [h1] at this; cases this
  | none =>
    have a1 := (fw1_none (E := E) T []).mp h1
    cases h2 : fw2 E [] T with
    | some i =>
      have hi := (fw_lt (E := E) T [] i).2 h2
      rw [List.length_nil, Nat.zero_add] at hi
      refine ⟨fun q => absurd q (by show ¬ nI i = -9; rw [i_ne9 (by omega)]; exact id), fun q => ?_⟩
      have := (fw2_none (E := E) T []).mpr fun q1 v q2 e => (q q1 v q2 e).2
      rw [h2] at this; cases this
    | none =>
      have a2 := (fw2_none (E := E) T []).mp h2
      exact ⟨fun _ p v q e => ⟨a1 p v q e, a2 p v q e⟩, fun _ => rfl⟩
theorem fwR_vrow {E : Nat → Nat → Prop} {T : List Nat} (hl : T.length ≤ 8) (hm : ∀ v, v ∈ T ↔ RA E v) : fwR E T = -9 ↔ VRow E T := by
  rw [fwR_9 hl]
  constructor
  · intro h
    have h0 : (0 : Nat) ∈ T := (hm 0).mpr RA.root
    refine ⟨hm, nodup_of T fun p v q e => (h p v q e).1.2.1, ?_, fun p v q e hn => ⟨(h p v q e).1.2.2.2 hn, (h p v q e).2.resolve_left hn⟩⟩
    cases T with
    | nil => exact absurd h0 List.not_mem_nil
    | cons a t => exact ⟨t, by rw [(h [] a t rfl).1.2.2.1 rfl]⟩
  · rintro ⟨-, hnd, ⟨t, ht⟩, hs⟩ p v q e
    refine ⟨⟨(hm v).mp (by rw [e]; exact List.mem_append_right _ List.mem_cons_self), fun z => ?_, fun hp => ?_, fun hn => (hs p v q e hn).1⟩, ?_⟩
    · rw [e, List.nodup_append] at hnd
      exact hnd.2.2 v z v List.mem_cons_self rfl
    · subst hp
      rw [ht, List.nil_append, List.cons.injEq] at e
      exact e.1.symm
    · by_cases hp : p = []
      · exact Or.inl hp
      · exact Or.inr (hs p v q e hp).2
