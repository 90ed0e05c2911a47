/-! there is always a showing -/
theorem maxOf (P : Nat → Prop) (Q : Nat → Nat → Prop) (rf : ∀ a, P a → Q a a) (tr : ∀ a b c, Q a b → Q b c → Q a c) (tot : ∀ a b, P a → P b → Q a b ∨ Q b a) : ∀ k, (∃ d, d < k ∧ P d) → ∃ l, l < k ∧ P l ∧ ∀ d, d < k → P d → Q d l := by
  intro k
  induction k with
  | zero => rintro ⟨d, h, -⟩; exact absurd h (Nat.not_lt_zero d)
  | succ k ih =>
    rintro ⟨d, hd, hP⟩
    by_cases h1 : ∃ d, d < k ∧ P d
    · obtain ⟨l, hl, hPl, hm⟩ := ih h1
      by_cases hk : P k
      · rcases tot l k hPl hk with h | h
        · refine ⟨k, Nat.lt_succ_self k, hk, fun x hx hPx => ?_⟩
          rcases Nat.lt_succ_iff_lt_or_eq.mp hx with q | q
          · exact tr _ _ _ (hm x q hPx) h
          · subst q; exact rf _ hPx
        · refine ⟨l, by omega, hPl, fun x hx hPx => ?_⟩
          rcases Nat.lt_succ_iff_lt_or_eq.mp hx with q | q
          · exact hm x q hPx
          · subst q; exact h
      · refine ⟨l, by omega, hPl, fun x hx hPx => ?_⟩
        rcases Nat.lt_succ_iff_lt_or_eq.mp hx with q | q
        · exact hm x q hPx
        · subst q; exact absurd hPx hk
    · have hdk : d = k := by
        rcases Nat.lt_succ_iff_lt_or_eq.mp hd with q | q
        · exact absurd ⟨d, q, hP⟩ h1
        · exact q
      subst hdk
      refine ⟨d, Nat.lt_succ_self d, hP, fun x hx hPx => ?_⟩
      rcases Nat.lt_succ_iff_lt_or_eq.mp hx with q | q
      · exact absurd ⟨x, q, hPx⟩ h1
      · subst q; exact rf _ hP
section SHW
variable {E : Nat → Nat → Prop}
theorem child_ex (hb : ∀ d, RA E d → d < 8) {d y : Nat} (h : Cov E d y) (hne : y ≠ d) : ∃ c, isLid E d c ∧ Cov E c y := by
  obtain ⟨c, -, ⟨h1, h2, h3⟩, hm⟩ := maxOf (fun c => Cov E d c ∧ c ≠ d ∧ Cov E c y) (fun a b => Cov E b a) (fun a ha => Cov.self ha.1.ra2) (fun a b c hab hbc => hbc.trans hab) (fun a b ha hb => (ha.2.2.chain hb.2.2).symm) 8 ⟨y, hb y h.ra2, h, hne, Cov.self h.ra2⟩
  refine ⟨c, ⟨h1, fun q => h2 q.symm, fun e he hec => ?_⟩, h3⟩
  rcases he.chain h1 with q | q
  · exact q
  · by_cases hed : e = d
    · subst hed; exact q
    · exact absurd (he.anti (hm e (hb e he.ra1) ⟨q, hed, he.trans h3⟩)) hec
theorem flat_children (hb : ∀ d, RA E d → d < 8) {d : Nat} (V : List Nat) (hV : ∀ c, c ∈ V ↔ isLid E d c) : Flat (fun c => c ∈ V) (fun a c => ∃ x, Cov E a x ∧ E x c) (fun c => E d c) (fun c => E d c) := by
  have key : ∀ (U I : Nat → Prop) (c : Nat), (∀ x, E d x → I x) → c ∈ V → Rch E U c → RR (fun c => c ∈ V) (fun a c => ∃ x, Cov E a x ∧ E x c) I U c := by
    intro U I c hI hc hr S h0 hs
    have hlc := (hV c).mp hc
    have hX := hr (fun x => RA E x ∧ (¬ Cov E d x ∨ x = d ∨ ∃ c', c' ∈ V ∧ S c' ∧ Cov E c' x)) (fun _ => by
      refine ⟨RA.root, ?_⟩
      by_cases h : (0 : Nat) = d
      · exact Or.inr (Or.inl h)
      · exact Or.inl fun q => h q.of_root.symm) (fun x y hx e hy => by
      refine ⟨hx.1.step e, ?_⟩
      by_cases h1 : Cov E d y
      · by_cases h2 : y = d
        · exact Or.inr (Or.inl h2)
        · obtain ⟨c', hc', hcy⟩ := child_ex hb h1 h2
          have hcV := (hV c').mpr hc'
          refine Or.inr (Or.inr ⟨c', hcV, ?_, hcy⟩)
          by_cases hyc : y = c'
          · subst hyc
            have hdx : Cov E d x := h1.edge hx.1 e (fun q => h2 q.symm)
            rcases hx.2 with q | q | ⟨c2, hc2, hS2, hcx⟩
            · exact absurd hdx q
            · subst q; exact h0 y hcV (hI y e) hy
            · exact hs c2 y hc2 hS2 hcV ⟨x, hcx, e⟩ hy
          · have hcx : Cov E c' x := hcy.edge hx.1 e (fun q => hyc q.symm)
            rcases hx.2 with q | q | ⟨c2, hc2, hS2, hcx2⟩
            · exact absurd (hc'.1.trans hcx) q
            · subst q; exact absurd (hc'.1.anti hcx) hc'.2.1
            · rw [sib hc' ((hV c2).mp hc2) hcx hcx2]; exact hS2
      · exact Or.inl h1)
    rcases hX.2 with q | q | ⟨c2, hc2, hS2, hcx⟩
    · exact absurd hlc.1 q
    · exact absurd q.symm hlc.2.1
    · rw [sib hlc ((hV c2).mp hc2) (Cov.self hlc.1.ra2) hcx]; exact hS2
  intro c hc
  have hlc := (hV c).mp hc
  refine ⟨fun u hu huc => ?_, ?_, ?_⟩
  · refine key (fun y => y = u) _ c (fun x e => Or.inl e) hc (Classical.byContradiction fun q => ?_)
    have hlu := (hV u).mp hu
    have hcov : Cov E u c := ⟨hlu.1.ra2, hlc.1.ra2, q⟩
    exact hlu.2.1 (hlu.1.anti (hlc.below hcov huc))
  · exact key _ _ c (fun x e => e) hc hlc.1.ra2
  · exact key _ _ c (fun x e => e) hc hlc.1.ra2
def Shn (E : Nat → Nat → Prop) (p : List Nat) (v : Nat) (q : List Nat) : Prop := (∃ l, isLid E l v ∧ E l v) ∨ ((∃ x, x ∈ p ∧ E x v) ∧ ∃ y, y ∈ q ∧ E y v ∧ ¬ Cov E v y)
def Behind (E : Nat → Nat → Prop) (p : List Nat) (v : Nat) : Prop := ∃ l, isLid E l v ∧ ∃ p' u, p = p' ++ [u] ∧ Cov E l u
/-- a showing, knot by knot -/
def VRow (E : Nat → Nat → Prop) (T : List Nat) : Prop := (∀ v, v ∈ T ↔ RA E v) ∧ T.Nodup ∧ (∃ t, T = 0 :: t) ∧ ∀ p v q, T = p ++ v :: q → p ≠ [] → Behind E p v ∧ Shn E p v q
def prel (CO : Nat → List Nat) : Nat → Nat → List Nat
  | 0, _ => []
  | k + 1, d => d :: (CO d).flatMap (prel CO k)
theorem flatMap_split {f : Nat → List Nat} {v : Nat} : ∀ (l p q : List Nat), l.flatMap f = p ++ v :: q → ∃ l1 a l2 p1 q1, l = l1 ++ a :: l2 ∧ f a = p1 ++ v :: q1 ∧ p = l1.flatMap f ++ p1 ∧ q = q1 ++ l2.flatMap f := by
  intro l
  induction l with
  | nil => intro p q h; cases p <;> cases h
  | cons a l ih =>
    intro p q h
    rw [List.flatMap_cons] at h
    rcases split_app h with ⟨q', e1, e2⟩ | ⟨p', e1, e2⟩
    · exact ⟨[], a, l, p, q', rfl, e1, rfl, e2⟩
    · obtain ⟨l1, b, l2, p1, q1, h1, h2, h3, h4⟩ := ih p' q e2
      exact ⟨a :: l1, b, l2, p1, q1, by rw [h1]; rfl, h2, by rw [e1, h3, List.flatMap_cons, List.append_assoc], h4⟩
theorem countP_lt {p q : Nat → Bool} : ∀ (l : List Nat), (∀ x, x ∈ l → p x = true → q x = true) → (∃ x, x ∈ l ∧ q x = true ∧ p x = false) → l.countP p < l.countP q := by
  intro l
  induction l with
  | nil => rintro - ⟨x, h, -⟩; exact absurd h List.not_mem_nil
  | cons a l ih =>
    intro h hx
    have hle : l.countP p ≤ l.countP q := List.countP_mono_left fun x hx => h x (List.mem_cons_of_mem _ hx)
    rw [List.countP_cons, List.countP_cons]
    by_cases ha : p a = true
    · have hq := h a List.mem_cons_self ha
      obtain ⟨x, hxm, h1, h2⟩ := hx
      have hxl : x ∈ l := by
        rcases List.mem_cons.mp hxm with e | e
        · subst e; rw [ha] at h2; cases h2
        · exact e
      have := ih (fun y hy => h y (List.mem_cons_of_mem _ hy)) ⟨x, hxl, h1, h2⟩
      simp only [ha, hq, if_true]
      omega
    · by_cases hq : q a = true
      · simp only [ha, hq, if_true]
        simp
        omega
      · obtain ⟨x, hxm, h1, h2⟩ := hx
        have hxl : x ∈ l := by
          rcases List.mem_cons.mp hxm with e | e
          · subst e; exact absurd h1 hq
          · exact e
        have := ih (fun y hy => h y (List.mem_cons_of_mem _ hy)) ⟨x, hxl, h1, h2⟩
        simp only [ha, hq]
        simp
        omega
theorem vrow_ex (hb : ∀ d, RA E d → d < 8) : ∃ T, VRow E T := by
  have hdec : ∃ f : Nat → Nat → Bool, ∀ x y, f x y = true ↔ Cov E x y := ⟨fun x y => @decide (Cov E x y) (Classical.propDecidable _), fun x y => @decide_eq_true_iff (Cov E x y) (Classical.propDecidable _)⟩
  obtain ⟨fc, hfc⟩ := hdec
  have hdec2 : ∃ f : Nat → Nat → Bool, ∀ x y, f x y = true ↔ isLid E x y := ⟨fun x y => @decide (isLid E x y) (Classical.propDecidable _), fun x y => @decide_eq_true_iff (isLid E x y) (Classical.propDecidable _)⟩
  obtain ⟨fl, hfl⟩ := hdec2
  have hCO : ∀ d, ∃ L : List Nat, (∀ c, c ∈ L ↔ isLid E d c) ∧ L.Nodup ∧ Order L (fun a c => ∃ x, Cov E a x ∧ E x c) (fun c => E d c) (fun c => E d c) := by
    intro d
    have hm : ∀ c, c ∈ (List.range 8).filter (fl d) ↔ isLid E d c := fun c => by
      rw [List.mem_filter, hfl, List.mem_range]
      exact ⟨fun h => h.2, fun h => ⟨hb c h.1.ra2, h⟩⟩
    obtain ⟨L, h1, h2, h3⟩ := order_ex _ ((List.range 8).filter (fl d)) _ _ _ (Nat.le_refl _) (List.nodup_range.filter _) (flat_children hb _ hm)
    exact ⟨L, fun c => (h1 c).trans (hm c), h2, h3⟩
  obtain ⟨CO, hCO⟩ := Classical.axiomOfChoice hCO
  have dep8 : ∀ d, (List.range 8).countP (fun x => fc x d) ≤ 8 := fun d => by
    have := List.countP_le_length (p := fun x => fc x d) (l := List.range 8)
    rw [List.length_range] at this
    exact this
  have depc : ∀ d c, isLid E d c → (List.range 8).countP (fun x => fc x d) < (List.range 8).countP (fun x => fc x c) := by
    intro d c h
    refine countP_lt _ (fun x _ hx => (hfc x c).mpr (((hfc x d).mp hx).trans h.1)) ⟨c, List.mem_range.mpr (hb c h.1.ra2), (hfc c c).mpr (Cov.self h.1.ra2), ?_⟩
    rw [Bool.eq_false_iff]
    exact fun q => h.2.1 (h.1.anti ((hfc c d).mp q))
  have key : ∀ (k d : Nat), RA E d → 9 ≤ k + (List.range 8).countP (fun x => fc x d) → (∀ v, v ∈ prel CO k d ↔ Cov E d v) ∧ (prel CO k d).Nodup ∧ (∃ t, prel CO k d = d :: t) ∧ ∀ p v q, prel CO k d = p ++ v :: q → p ≠ [] → Behind E p v ∧ Shn E p v q := by
    intro k
    induction k with
    | zero => intro d _ h; have := dep8 d; omega
    | succ k ih =>
      intro d hd hk
      obtain ⟨hm, hn, ho⟩ := hCO d
      have ihc : ∀ c, c ∈ CO d → _ := fun c hc => ih c ((hm c).mp hc).1.ra2 (by have := depc d c ((hm c).mp hc); omega)
      have hmem : ∀ v, v ∈ prel CO (k + 1) d ↔ Cov E d v := by
        intro v
        rw [prel, List.mem_cons, List.mem_flatMap]
        constructor
        · rintro (h | ⟨c, hc, h⟩)
          · subst h; exact Cov.self hd
          · exact ((hm c).mp hc).1.trans (((ihc c hc).1 v).mp h)
        · intro h
          by_cases hv : v = d
          · exact Or.inl hv
          · obtain ⟨c, hc, hcv⟩ := child_ex hb h hv
            exact Or.inr ⟨c, (hm c).mpr hc, ((ihc c ((hm c).mpr hc)).1 v).mpr hcv⟩
      refine ⟨hmem, ?_, ⟨_, rfl⟩, ?_⟩
      · rw [prel, List.nodup_cons]
        refine ⟨fun h => ?_, ?_⟩
        · obtain ⟨c, hc, h⟩ := List.mem_flatMap.mp h
          have hl := (hm c).mp hc
          exact hl.2.1 (hl.1.anti (((ihc c hc).1 d).mp h))
        · have gen : ∀ l : List Nat, (∀ c, c ∈ l → c ∈ CO d) → l.Nodup → (l.flatMap (prel CO k)).Nodup := by
            intro l
            induction l with
            | nil => intro _ _; exact List.nodup_nil
            | cons c l ihl =>
              intro hl hnd
              rw [List.flatMap_cons, List.nodup_append]
              rw [List.nodup_cons] at hnd
              refine ⟨(ihc c (hl c List.mem_cons_self)).2.1, ihl (fun x hx => hl x (List.mem_cons_of_mem _ hx)) hnd.2, fun a ha b hb2 e => ?_⟩
              subst e
              obtain ⟨c2, hc2, h2⟩ := List.mem_flatMap.mp hb2
              have hcO := hl c List.mem_cons_self
              have hc2O := hl c2 (List.mem_cons_of_mem _ hc2)
              have := sib ((hm c).mp hcO) ((hm c2).mp hc2O) (((ihc c hcO).1 a).mp ha) (((ihc c2 hc2O).1 a).mp h2)
              subst this
              exact hnd.1 hc2
          exact gen (CO d) (fun _ h => h) hn
      · intro p v q h hp
        have hall : ∀ x, x ∈ p → Cov E d x := fun x hx => (hmem x).mp (by rw [h]; exact List.mem_append_left _ hx)
        rw [prel] at h
        cases p with
        | nil => exact absurd rfl hp
        | cons a p =>
          simp only [List.cons_append, List.cons.injEq] at h
          obtain ⟨rfl, h⟩ := h
          obtain ⟨l1, c, l2, p1, q1, e1, e2, e3, e4⟩ := flatMap_split _ _ _ h
          have hcO : c ∈ CO d := by rw [e1]; exact List.mem_append_right _ List.mem_cons_self
          have hlc := (hm c).mp hcO
          obtain ⟨c1, c2, ⟨ct, c3⟩, c4⟩ := ihc c hcO
          by_cases hp1 : p1 = []
          · subst hp1
            rw [c3] at e2
            simp only [List.nil_append, List.cons.injEq] at e2
            obtain ⟨rfl, -⟩ := e2
            refine ⟨⟨d, hlc, ?_⟩, ?_⟩
            · have hne : (d :: p) ≠ [] := by simp
              exact ⟨(d :: p).dropLast, (d :: p).getLast hne, (List.dropLast_concat_getLast hne).symm, hall _ (List.getLast_mem hne)⟩
            · obtain ⟨g1, g2⟩ := ho l1 c l2 e1
              by_cases hdc : E d c
              · exact Or.inl ⟨d, hlc, hdc⟩
              · obtain ⟨x, hx, z, hxz, ez⟩ := g1.resolve_left hdc
                obtain ⟨y, hy, z2, hyz, ez2⟩ := g2.resolve_left hdc
                have hxO : x ∈ CO d := by rw [e1]; exact List.mem_append_left _ hx
                have hyO : y ∈ CO d := by rw [e1]; exact List.mem_append_right _ (List.mem_cons_of_mem _ hy)
                refine Or.inr ⟨⟨z, ?_, ez⟩, z2, ?_, ez2, fun hcz => ?_⟩
                · rw [e3]
                  exact List.mem_cons_of_mem _ (List.mem_append_left _ (List.mem_flatMap.mpr ⟨x, hx, ((ihc x hxO).1 z).mpr hxz⟩))
                · rw [e4]
                  exact List.mem_append_right _ (List.mem_flatMap.mpr ⟨y, hy, ((ihc y hyO).1 z2).mpr hyz⟩)
                · have := sib hlc ((hm y).mp hyO) hcz hyz
                  subst this
                  rw [e1, List.nodup_append] at hn
                  have := hn.2.1
                  rw [List.nodup_cons] at this
                  exact this.1 hy
          · obtain ⟨⟨l, hl, p', u, hpu, hu⟩, hsh⟩ := c4 p1 v q1 e2 hp1
            refine ⟨⟨l, hl, d :: (l1.flatMap (prel CO k) ++ p'), u, ?_, hu⟩, ?_⟩
            · rw [e3, hpu]; simp
            · rcases hsh with h1 | ⟨⟨x, hx, ex⟩, y, hy, ey, hny⟩
              · exact Or.inl h1
              · exact Or.inr ⟨⟨x, by rw [e3]; exact List.mem_cons_of_mem _ (List.mem_append_right _ hx), ex⟩, y, by rw [e4]; exact List.mem_append_left _ hy, ey, hny⟩
  obtain ⟨h1, h2, h3, h4⟩ := key 9 0 RA.root (by omega)
  exact ⟨prel CO 9 0, fun v => (h1 v).trans ⟨fun h => h.ra2, Cov.root⟩, h2, h3, h4⟩
end SHW
