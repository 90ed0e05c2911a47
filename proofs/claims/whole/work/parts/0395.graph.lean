/-! covers in a graph with a root: the theory, over any relation of edges -/
section G
variable {E : Nat → Nat → Prop}
/-- reached from 0 by edges, through none of the shut ones -/
def Rch (E : Nat → Nat → Prop) (D : Nat → Prop) (v : Nat) : Prop := ∀ S : Nat → Prop, (¬ D 0 → S 0) → (∀ x y, S x → E x y → ¬ D y → S y) → S v
def RA (E : Nat → Nat → Prop) (v : Nat) : Prop := Rch E (fun _ => False) v
def Rd (E : Nat → Nat → Prop) (d v : Nat) : Prop := Rch E (fun y => y = d) v
def Cov (E : Nat → Nat → Prop) (d v : Nat) : Prop := RA E d ∧ RA E v ∧ ¬ Rd E d v
def isLid (E : Nat → Nat → Prop) (l v : Nat) : Prop := Cov E l v ∧ l ≠ v ∧ ∀ d, Cov E d v → d ≠ v → Cov E d l
theorem Rch.root {D : Nat → Prop} (h : ¬ D 0) : Rch E D 0 := fun _ h0 _ => h0 h
theorem Rch.step {D : Nat → Prop} {x y : Nat} (h : Rch E D x) (e : E x y) (hy : ¬ D y) : Rch E D y := fun S h0 hs => hs x y (h S h0 hs) e hy
theorem Rch.free {D : Nat → Prop} {v : Nat} (h : Rch E D v) : ¬ D v := h (fun y => ¬ D y) id (fun _ _ _ _ hy => hy)
theorem RA.root : RA E 0 := Rch.root id
theorem RA.step {x y : Nat} (h : RA E x) (e : E x y) : RA E y := Rch.step h e id
theorem Rd.root {d : Nat} (h : d ≠ 0) : Rd E d 0 := Rch.root (fun q => h q.symm)
theorem Rd.step {d x y : Nat} (h : Rd E d x) (e : E x y) (hy : y ≠ d) : Rd E d y := Rch.step h e hy
theorem Rd.ne {d v : Nat} (h : Rd E d v) : v ≠ d := Rch.free (D := fun y => y = d) h
theorem Rd.ra {d v : Nat} (h : Rd E d v) : RA E v := h (RA E) (fun _ => RA.root) (fun _ _ hx e _ => RA.step hx e)
theorem Rd.zero {v : Nat} (h : Rd E 0 v) : False := h (fun _ => False) (fun q => q rfl) (fun _ _ hx _ _ => hx)
theorem Cov.self {v : Nat} (h : RA E v) : Cov E v v := ⟨h, h, fun q => q.ne rfl⟩
theorem Cov.root {v : Nat} (h : RA E v) : Cov E 0 v := ⟨RA.root, h, fun q => q.zero⟩
theorem Cov.ra1 {d v : Nat} (h : Cov E d v) : RA E d := h.1
theorem Cov.ra2 {d v : Nat} (h : Cov E d v) : RA E v := h.2.1
theorem Cov.of_root {d : Nat} (h : Cov E d 0) : d = 0 := Classical.byContradiction fun q => h.2.2 (Rd.root q)
theorem Cov.trans {a b c : Nat} (h1 : Cov E a b) (h2 : Cov E b c) : Cov E a c := by
  refine ⟨h1.1, h2.2.1, fun hac => h2.2.2 ?_⟩
  refine (hac (fun x => Rd E a x ∧ Rd E b x) (fun h0 => ?_) (fun x y hx e hy => ?_)).2
  · refine ⟨Rd.root (fun q => h0 q.symm), Rd.root fun hb => ?_⟩
    subst hb
    exact h0 (h1.of_root).symm
  · have h3 := hx.1.step e hy
    refine ⟨h3, hx.2.step e fun hb => ?_⟩
    subst hb
    exact h1.2.2 h3
theorem Cov.anti {a b : Nat} (h1 : Cov E a b) (h2 : Cov E b a) : a = b := by
  refine Classical.byContradiction fun hne => ?_
  have ha : a ≠ 0 := fun h => hne (by subst h; exact (h2.of_root).symm)
  have hb : b ≠ 0 := fun h => hne (by subst h; exact h1.of_root)
  refine (h1.1 (fun x => Rd E a x ∧ Rd E b x) (fun _ => ⟨Rd.root ha, Rd.root hb⟩) (fun x y hx e _ => ?_)).1.ne rfl
  have hya : y ≠ a := fun q => by subst q; exact h2.2.2 (hx.2.step e hne)
  have hyb : y ≠ b := fun q => by subst q; exact h1.2.2 (hx.1.step e (fun z => hne z.symm))
  exact ⟨hx.1.step e hya, hx.2.step e hyb⟩
theorem Cov.chain {a b v : Nat} (h1 : Cov E a v) (h2 : Cov E b v) : Cov E a b ∨ Cov E b a := by
  refine Classical.byContradiction fun hn => ?_
  have hab : Rd E a b := Classical.byContradiction fun q => hn (Or.inl ⟨h1.1, h2.1, q⟩)
  have hba : Rd E b a := Classical.byContradiction fun q => hn (Or.inr ⟨h2.1, h1.1, q⟩)
  have ha : a ≠ 0 := fun h => by subst h; exact hab.zero
  have key : Rd E a v ∨ Rd E b v := h1.2.1 (fun x => Rd E a x ∨ Rd E b x) (fun _ => Or.inl (Rd.root ha)) (fun x y hx e _ => by
    by_cases hya : y = a
    · subst hya; exact Or.inr hba
    · by_cases hyb : y = b
      · subst hyb; exact Or.inl hab
      · rcases hx with h | h
        · exact Or.inl (h.step e hya)
        · exact Or.inr (h.step e hyb))
  exact key.elim h1.2.2 h2.2.2
theorem Cov.edge {d x y : Nat} (h : Cov E d y) (hx : RA E x) (e : E x y) (hd : d ≠ y) : Cov E d x :=
  ⟨h.1, hx, fun q => h.2.2 (q.step e fun z => hd z.symm)⟩
theorem isLid.uniq {l m v : Nat} (h1 : isLid E l v) (h2 : isLid E m v) : l = m := (h2.2.2 l h1.1 h1.2.1).anti (h1.2.2 m h2.1 h2.2.1)
theorem isLid.none {l : Nat} (h : isLid E l 0) : False := h.2.1 h.1.of_root
/-- among the first k knots the deepest with P, if they lie on a chain -/
theorem deepest (P : Nat → Prop) (hc : ∀ a b, P a → P b → Cov E a b ∨ Cov E b a) : ∀ k, (∃ d, d < k ∧ P d) → ∃ l, l < k ∧ P l ∧ ∀ d, d < k → P d → Cov E d l := by
  intro k
  induction k with
  | zero => rintro ⟨d, h, -⟩; exact absurd h (Nat.not_lt_zero d)
  | succ k ih =>
    rintro ⟨d, hd, hP⟩
    by_cases h1 : ∃ d, d < k ∧ P d
    · obtain ⟨l, hl, hPl, hm⟩ := ih h1
      by_cases hk : P k
      · rcases hc l k hPl hk with h | h
        · refine ⟨k, Nat.lt_succ_self k, hk, fun x hx hPx => ?_⟩
          rcases Nat.lt_succ_iff_lt_or_eq.mp hx with q | q
          · exact (hm x q hPx).trans h
          · subst q; exact Cov.self h.ra2
        · refine ⟨l, by omega, hPl, fun x hx hPx => ?_⟩
          rcases Nat.lt_succ_iff_lt_or_eq.mp hx with q | q
          · exact hm x q hPx
          · subst q; exact h
      · refine ⟨l, by omega, hPl, fun x hx hPx => ?_⟩
        rcases Nat.lt_succ_iff_lt_or_eq.mp hx with q | q
        · exact hm x q hPx
        · subst q; exact absurd hPx hk
    · have hdk : d = k := by
        rcases Nat.lt_succ_iff_lt_or_eq.mp hd with q | q
        · exact absurd ⟨d, q, hP⟩ h1
        · exact q
      subst hdk
      refine ⟨d, Nat.lt_succ_self d, hP, fun x hx hPx => ?_⟩
      rcases Nat.lt_succ_iff_lt_or_eq.mp hx with q | q
      · exact absurd ⟨x, q, hPx⟩ h1
      · subst q
        rcases hc x x hP hP with h | h <;> exact h
theorem lid_ex {v : Nat} (hb : ∀ d, RA E d → d < 8) (hv : RA E v) (h0 : v ≠ 0) : ∃ l, l < 8 ∧ isLid E l v := by
  obtain ⟨l, hl, hP, hm⟩ := deepest (E := E) (fun d => Cov E d v ∧ d ≠ v) (fun a b ha hb => ha.1.chain hb.1) 8 ⟨0, by omega, Cov.root hv, fun q => h0 q.symm⟩
  exact ⟨l, hl, hP.1, hP.2, fun d hd hne => hm d (hb d hd.1) ⟨hd, hne⟩⟩
/-- a coverer other than the knot itself covers its lid; what lies below the lid's other children doesn't meet -/
theorem isLid.below {l c d : Nat} (h : isLid E l c) (hd : Cov E d c) (hne : d ≠ c) : Cov E d l := h.2.2 d hd hne
theorem sib {d c c' v : Nat} (h : isLid E d c) (h' : isLid E d c') (hv : Cov E c v) (hv' : Cov E c' v) : c = c' := by
  rcases hv.chain hv' with q | q
  · refine Classical.byContradiction fun hne => ?_
    have h1 := h'.below q hne
    exact h.2.1 (h.1.anti h1)
  · refine Classical.byContradiction fun hne => ?_
    have h1 := h.below q (fun z => hne z.symm)
    exact h'.2.1 (h'.1.anti h1)
end G
/-! an order by which each has one that leads to it ahead of it and one behind it: s lies ahead of all, t behind all -/
/-- reached inside V from starts I, without U, by edges E -/
def RR (V : Nat → Prop) (E : Nat → Nat → Prop) (I : Nat → Prop) (U : Nat → Prop) (v : Nat) : Prop :=
  ∀ S : Nat → Prop, (∀ x, V x → I x → ¬ U x → S x) → (∀ x y, V x → S x → V y → E x y → ¬ U y → S y) → S v
theorem RR.start {V : Nat → Prop} {E : Nat → Nat → Prop} {I U : Nat → Prop} {v : Nat} (hv : V v) (hi : I v) (hu : ¬ U v) : RR V E I U v := fun _ h _ => h v hv hi hu
theorem RR.step {V : Nat → Prop} {E : Nat → Nat → Prop} {I U : Nat → Prop} {x y : Nat} (h : RR V E I U x) (hx : V x) (hy : V y) (e : E x y) (hu : ¬ U y) : RR V E I U y := fun S h0 hs => hs x y hx (h S h0 hs) hy e hu
def Order (L : List Nat) (E : Nat → Nat → Prop) (As At : Nat → Prop) : Prop := ∀ p v q, L = p ++ v :: q → (As v ∨ ∃ x, x ∈ p ∧ E x v) ∧ (At v ∨ ∃ y, y ∈ q ∧ E y v)
def Flat (V : Nat → Prop) (E : Nat → Nat → Prop) (As At : Nat → Prop) : Prop := ∀ v, V v → (∀ u, V u → u ≠ v → RR V E (fun x => As x ∨ At x) (fun y => y = u) v) ∧ RR V E At (fun _ => False) v ∧ RR V E As (fun _ => False) v
theorem split_app {L1 L2 p q : List Nat} {v : Nat} (h : L1 ++ L2 = p ++ v :: q) : (∃ q', L1 = p ++ v :: q' ∧ q = q' ++ L2) ∨ (∃ p', p = L1 ++ p' ∧ L2 = p' ++ v :: q) := by
  rcases List.append_eq_append_iff.mp h with ⟨as, h1, h2⟩ | ⟨bs, h1, h2⟩
  · exact Or.inr ⟨as, h1, h2⟩
  · cases bs with
    | nil => exact Or.inr ⟨[], by simpa using h1.symm, by simpa using h2.symm⟩
    | cons b bs =>
      simp only [List.cons_append, List.cons.injEq] at h2
      obtain ⟨rfl, h2⟩ := h2
      exact Or.inl ⟨bs, h1, h2⟩
theorem len_split (f : Nat → Bool) : ∀ l : List Nat, (l.filter f).length + (l.filter (fun x => !f x)).length = l.length := by
  intro l
  induction l with
  | nil => rfl
  | cons a l ih => cases h : f a <;> simp [List.filter_cons, h] <;> omega
theorem order_ex : ∀ (n : Nat) (V : List Nat) (E : Nat → Nat → Prop) (As At : Nat → Prop), V.length ≤ n → V.Nodup → Flat (fun x => x ∈ V) E As At → ∃ L : List Nat, (∀ x, x ∈ L ↔ x ∈ V) ∧ L.Nodup ∧ Order L E As At := by
  intro n
  induction n with
  | zero =>
    intro V E As At hn hnd hF
    have : V = [] := List.length_eq_zero_iff.mp (by omega)
    subst this
    exact ⟨[], fun _ => Iff.rfl, hnd, fun p v q h => by cases p <;> cases h⟩
  | succ n ih =>
    intro V E As At hn hnd hF
    by_cases hV : V = []
    · subst hV
      exact ⟨[], fun _ => Iff.rfl, hnd, fun p v q h => by cases p <;> cases h⟩
    obtain ⟨w0, hw0⟩ : ∃ w, w ∈ V := List.exists_mem_of_ne_nil V hV
    obtain ⟨v, hv, hAs⟩ : ∃ v, v ∈ V ∧ As v := by
      refine Classical.byContradiction fun hno => ?_
      exact (hF w0 hw0).2.2 (fun _ => False) (fun x hx hi _ => hno ⟨x, hx, hi⟩) (fun _ _ _ h _ _ _ => h)
    have dec : ∀ p : Nat → Prop, ∃ f : Nat → Bool, ∀ x, f x = true ↔ p x := fun p => ⟨fun x => @decide (p x) (Classical.propDecidable _), fun x => @decide_eq_true_iff (p x) (Classical.propDecidable _)⟩
    obtain ⟨fa, hfa⟩ := dec (fun w => w ≠ v ∧ ¬ RR (fun x => x ∈ V) E At (fun y => y = v) w)
    have hmA : ∀ x, x ∈ V.filter fa ↔ x ∈ V ∧ (x ≠ v ∧ ¬ RR (fun x => x ∈ V) E At (fun y => y = v) x) := fun x => by rw [List.mem_filter, hfa]
    have hmB : ∀ x, x ∈ V.filter (fun x => !fa x) ↔ x ∈ V ∧ ¬ (x ≠ v ∧ ¬ RR (fun x => x ∈ V) E At (fun y => y = v) x) := fun x => by
      rw [List.mem_filter, Bool.not_eq_true', Bool.eq_false_iff]
      exact ⟨fun h => ⟨h.1, fun q => h.2 ((hfa x).mpr q)⟩, fun h => ⟨h.1, fun q => h.2 ((hfa x).mp q)⟩⟩
    have hout : ∀ x y, x ∈ V → y ∈ V → x ≠ v → x ∉ V.filter fa → E x y → y ≠ v → y ∉ V.filter fa := by
      intro x y hx hy hxv hxA e hyv hyA
      have h1 : RR (fun x => x ∈ V) E At (fun y => y = v) x := Classical.byContradiction fun q => hxA ((hmA x).mpr ⟨hx, hxv, q⟩)
      exact ((hmA y).mp hyA).2.2 (h1.step hx hy e hyv)
    have hAt : ∀ x, x ∈ V → At x → x ∉ V.filter fa := fun x hx hA hxA => ((hmA x).mp hxA).2.2 (RR.start hx hA ((hmA x).mp hxA).2.1)
    have hvA : v ∉ V.filter fa := fun h => ((hmA v).mp h).2.1 rfl
    have hvB : v ∈ V.filter (fun x => !fa x) := (hmB v).mpr ⟨hv, fun h => h.1 rfl⟩
    by_cases hA : V.filter fa = []
    · -- none lies behind v alone: v goes ahead
      have hin : ∀ x, x ∈ V → x ≠ v → RR (fun x => x ∈ V) E At (fun y => y = v) x := fun x hx hxv => Classical.byContradiction fun q => by
        have : x ∈ V.filter fa := (hmA x).mpr ⟨hx, hxv, q⟩
        rw [hA] at this
        exact absurd this List.not_mem_nil
      have hmE : ∀ x, x ∈ V.erase v ↔ x ≠ v ∧ x ∈ V := fun x => hnd.mem_erase_iff
      obtain ⟨L, hL, hLn, hLo⟩ := ih (V.erase v) E (fun x => As x ∨ E v x) At (by rw [List.length_erase_of_mem hv]; omega) (hnd.erase v) (by
        intro w hw
        obtain ⟨hwv, hwV⟩ := (hmE w).mp hw
        refine ⟨fun u hu huw => ?_, ?_, ?_⟩
        · intro S h0 hs
          obtain ⟨huv, huV⟩ := (hmE u).mp hu
          refine ((hF w hwV).1 u huV huw (fun y => y = v ∨ S y) (fun x hx hi hxu => ?_) (fun x y hx hS hy e hyu => ?_)).resolve_left hwv
          · by_cases hxv : x = v
            · exact Or.inl hxv
            · exact Or.inr (h0 x ((hmE x).mpr ⟨hxv, hx⟩) (hi.elim (fun q => Or.inl (Or.inl q)) Or.inr) hxu)
          · by_cases hyv : y = v
            · exact Or.inl hyv
            · have hyE := (hmE y).mpr ⟨hyv, hy⟩
              rcases hS with q | q
              · subst q; exact Or.inr (h0 y hyE (Or.inl (Or.inr e)) hyu)
              · by_cases hxv : x = v
                · subst hxv; exact Or.inr (h0 y hyE (Or.inl (Or.inr e)) hyu)
                · exact Or.inr (hs x y ((hmE x).mpr ⟨hxv, hx⟩) q hyE e hyu)
        · intro S h0 hs
          refine (hin w hwV hwv (fun y => y ≠ v ∧ S y) (fun x hx hi hxu => ⟨hxu, h0 x ((hmE x).mpr ⟨hxu, hx⟩) hi id⟩) (fun x y hx hS hy e hyu => ⟨hyu, hs x y ((hmE x).mpr ⟨hS.1, hx⟩) hS.2 ((hmE y).mpr ⟨hyu, hy⟩) e id⟩)).2
        · intro S h0 hs
          refine ((hF w hwV).2.2 (fun y => y = v ∨ S y) (fun x hx hi hxu => ?_) (fun x y hx hS hy e hyu => ?_)).resolve_left hwv
          · by_cases hxv : x = v
            · exact Or.inl hxv
            · exact Or.inr (h0 x ((hmE x).mpr ⟨hxv, hx⟩) (Or.inl hi) id)
          · by_cases hyv : y = v
            · exact Or.inl hyv
            · have hyE := (hmE y).mpr ⟨hyv, hy⟩
              by_cases hxv : x = v
              · subst hxv; exact Or.inr (h0 y hyE (Or.inr e) id)
              · exact Or.inr (hs x y ((hmE x).mpr ⟨hxv, hx⟩) (hS.resolve_left hxv) hyE e id))
      refine ⟨v :: L, fun x => ?_, ?_, ?_⟩
      · rw [List.mem_cons, hL, hmE]
        exact ⟨fun h => h.elim (fun q => by rw [q]; exact hv) (fun q => q.2), fun h => by
          by_cases q : x = v
          · exact Or.inl q
          · exact Or.inr ⟨q, h⟩⟩
      · rw [List.nodup_cons]
        exact ⟨fun h => ((hmE v).mp ((hL v).mp h)).1 rfl, hLn⟩
      · intro p x q h
        cases p with
        | nil =>
          simp only [List.nil_append, List.cons.injEq] at h
          obtain ⟨rfl, rfl⟩ := h
          refine ⟨Or.inl hAs, Classical.byContradiction fun hno => ?_⟩
          refine absurd rfl ((hF v hv).2.1 (fun y => y ≠ v) (fun x hx hi _ e => hno (Or.inl (by rw [← e]; exact hi))) (fun x y hx hS hy e _ he => hno (Or.inr ⟨x, (hL x).mpr ((hmE x).mpr ⟨hS, hx⟩), by rw [← he]; exact e⟩)))
        | cons a p =>
          simp only [List.cons_append, List.cons.injEq] at h
          obtain ⟨rfl, h⟩ := h
          obtain ⟨h1, h2⟩ := hLo p x q h
          refine ⟨?_, h2⟩
          rcases h1 with (h1 | h1) | ⟨y, hy, e⟩
          · exact Or.inl h1
          · exact Or.inr ⟨v, List.mem_cons_self, h1⟩
          · exact Or.inr ⟨y, List.mem_cons_of_mem _ hy, e⟩
    · -- those behind v alone, between s and v; then the others
      have hlen : (V.filter fa).length + (V.filter (fun x => !fa x)).length = V.length := len_split fa V
      have h1 : 0 < (V.filter fa).length := List.length_pos_iff.mpr hA
      have h2 : 0 < (V.filter (fun x => !fa x)).length := List.length_pos_of_mem hvB
      obtain ⟨L1, hL1, hn1, ho1⟩ := ih (V.filter fa) E As (fun x => E v x) (by omega) (hnd.filter _) (by
        intro w hw
        have hwV := ((hmA w).mp hw).1
        have hwv := ((hmA w).mp hw).2.1
        refine ⟨fun u hu huw => ?_, ?_, ?_⟩
        · intro S h0 hs
          have huV := ((hmA u).mp hu).1
          refine ((hF w hwV).1 u huV huw (fun x => x ∈ V.filter fa → S x) (fun x hx hi hxu hxA => ?_) (fun x y hx hS hy e hyu hyA => ?_)) hw
          · rcases hi with q | q
            · exact h0 x hxA (Or.inl q) hxu
            · exact absurd hxA (hAt x hx q)
          · by_cases hxA : x ∈ V.filter fa
            · exact hs x y hxA (hS hxA) hyA e hyu
            · by_cases hxv : x = v
              · subst hxv; exact h0 y hyA (Or.inr e) hyu
              · exact absurd hyA (hout x y hx hy hxv hxA e ((hmA y).mp hyA).2.1)
        · intro S h0 hs
          refine ((hF w hwV).2.1 (fun x => x ∈ V.filter fa → S x) (fun x hx hi hxu hxA => absurd hxA (hAt x hx hi)) (fun x y hx hS hy e hyu hyA => ?_)) hw
          by_cases hxA : x ∈ V.filter fa
          · exact hs x y hxA (hS hxA) hyA e id
          · by_cases hxv : x = v
            · subst hxv; exact h0 y hyA e id
            · exact absurd hyA (hout x y hx hy hxv hxA e ((hmA y).mp hyA).2.1)
        · intro S h0 hs
          refine (((hF w hwV).1 v hv (fun q => hwv q.symm) (fun x => x ≠ v ∧ (x ∈ V.filter fa → S x)) (fun x hx hi hxu => ⟨hxu, fun hxA => ?_⟩) (fun x y hx hS hy e hyu => ⟨hyu, fun hyA => ?_⟩))).2 hw
          · rcases hi with q | q
            · exact h0 x hxA q id
            · exact absurd hxA (hAt x hx q)
          · by_cases hxA : x ∈ V.filter fa
            · exact hs x y hxA (hS.2 hxA) hyA e id
            · exact absurd hyA (hout x y hx hy hS.1 hxA e hyu))
      obtain ⟨L2, hL2, hn2, ho2⟩ := ih (V.filter (fun x => !fa x)) E (fun x => As x ∨ ∃ a, a ∈ V.filter fa ∧ E a x) At (by omega) (hnd.filter _) (by
        intro w hw
        have hwV := ((hmB w).mp hw).1
        have hBn : ∀ x, x ∈ V → x ∉ V.filter fa → x ∈ V.filter (fun x => !fa x) := fun x hx hxA => (hmB x).mpr ⟨hx, fun q => hxA ((hmA x).mpr ⟨hx, q⟩)⟩
        have hBA : ∀ x, x ∈ V.filter (fun x => !fa x) → x ∉ V.filter fa := fun x hx hxA => ((hmB x).mp hx).2 ((hmA x).mp hxA).2
        refine ⟨fun u hu huw => ?_, ?_, ?_⟩
        · intro S h0 hs
          have huV := ((hmB u).mp hu).1
          refine ((hF w hwV).1 u huV huw (fun x => x ∈ V.filter fa ∨ S x) (fun x hx hi hxu => ?_) (fun x y hx hS hy e hyu => ?_)).resolve_left (hBA w hw)
          · by_cases hxA : x ∈ V.filter fa
            · exact Or.inl hxA
            · exact Or.inr (h0 x (hBn x hx hxA) (hi.elim (fun q => Or.inl (Or.inl q)) Or.inr) hxu)
          · by_cases hyA : y ∈ V.filter fa
            · exact Or.inl hyA
            · by_cases hxA : x ∈ V.filter fa
              · exact Or.inr (h0 y (hBn y hy hyA) (Or.inl (Or.inr ⟨x, hxA, e⟩)) hyu)
              · exact Or.inr (hs x y (hBn x hx hxA) (hS.resolve_left hxA) (hBn y hy hyA) e hyu)
        · intro S h0 hs
          refine Classical.byContradiction fun hSw => ?_
          by_cases hwv : w = v
          · subst hwv
            refine ((hF w hwV).2.1 (fun y => y ≠ w ∧ y ∉ V.filter fa ∧ S y) (fun x hx hi _ => ?_) (fun x y hx hS hy e _ => ?_)).1 rfl
            · have hxA := hAt x hx hi
              have hSx := h0 x (hBn x hx hxA) hi id
              exact ⟨fun q => hSw (by rw [← q]; exact hSx), hxA, hSx⟩
            · have hyw : y ≠ w := fun q => hSw (by rw [← q]; exact hs x y (hBn x hx hS.2.1) hS.2.2 (by rw [q]; exact hw) e id)
              have hyA := hout x y hx hy hS.1 hS.2.1 e hyw
              exact ⟨hyw, hyA, hs x y (hBn x hx hS.2.1) hS.2.2 (hBn y hy hyA) e id⟩
          · have hr : RR (fun x => x ∈ V) E At (fun y => y = v) w := Classical.byContradiction fun q => hBA w hw ((hmA w).mpr ⟨hwV, hwv, q⟩)
            refine hSw (hr (fun y => y ≠ v ∧ y ∉ V.filter fa ∧ S y) (fun x hx hi hxv => ?_) (fun x y hx hS hy e hyv => ?_)).2.2
            · have hxA := hAt x hx hi
              exact ⟨hxv, hxA, h0 x (hBn x hx hxA) hi id⟩
            · have hyA := hout x y hx hy hS.1 hS.2.1 e hyv
              exact ⟨hyv, hyA, hs x y (hBn x hx hS.2.1) hS.2.2 (hBn y hy hyA) e id⟩
        · intro S h0 hs
          refine ((hF w hwV).2.2 (fun x => x ∈ V.filter fa ∨ S x) (fun x hx hi hxu => ?_) (fun x y hx hS hy e hyu => ?_)).resolve_left (hBA w hw)
          · by_cases hxA : x ∈ V.filter fa
            · exact Or.inl hxA
            · exact Or.inr (h0 x (hBn x hx hxA) (Or.inl hi) id)
          · by_cases hyA : y ∈ V.filter fa
            · exact Or.inl hyA
            · by_cases hxA : x ∈ V.filter fa
              · exact Or.inr (h0 y (hBn y hy hyA) (Or.inr ⟨x, hxA, e⟩) id)
              · exact Or.inr (hs x y (hBn x hx hxA) (hS.resolve_left hxA) (hBn y hy hyA) e id))
      refine ⟨L1 ++ L2, fun x => ?_, ?_, ?_⟩
      · rw [List.mem_append, hL1, hL2, hmA, hmB]
        constructor
        · rintro (h | h) <;> exact h.1
        · intro h
          by_cases q : x ≠ v ∧ ¬ RR (fun x => x ∈ V) E At (fun y => y = v) x
          · exact Or.inl ⟨h, q⟩
          · exact Or.inr ⟨h, q⟩
      · rw [List.nodup_append]
        exact ⟨hn1, hn2, fun a ha b hb e => by
          subst e
          exact ((hmB a).mp ((hL2 a).mp hb)).2 ((hmA a).mp ((hL1 a).mp ha)).2⟩
      · intro p x q h
        rcases split_app h with ⟨q', e1, e2⟩ | ⟨p', e1, e2⟩
        · obtain ⟨g1, g2⟩ := ho1 p x q' e1
          refine ⟨g1, ?_⟩
          rcases g2 with g | ⟨y, hy, e⟩
          · exact Or.inr ⟨v, by rw [e2]; exact List.mem_append_right _ ((hL2 v).mpr hvB), g⟩
          · exact Or.inr ⟨y, by rw [e2]; exact List.mem_append_left _ hy, e⟩
        · obtain ⟨g1, g2⟩ := ho2 p' x q e2
          refine ⟨?_, g2⟩
          rcases g1 with (g | ⟨a, ha, e⟩) | ⟨y, hy, e⟩
          · exact Or.inl g
          · exact Or.inr ⟨a, by rw [e1]; exact List.mem_append_left _ ((hL1 a).mpr ha), e⟩
          · exact Or.inr ⟨y, by rw [e1]; exact List.mem_append_right _ hy, e⟩
