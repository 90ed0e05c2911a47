/-! rims, the nearest of two, depths together: both sides alike -/
section RIM
variable {g cvd cvr : Int64} {rch mrch : Int32} {cov now : Nat → Int32} {R : Nat → Nat → Prop} {L nx : Nat} {E : List (Nat × Nat)}
theorem rim_n (h : cvR g cvd cvr rch) {v : Nat} (hv : v < 8) : ∃ s, mX2_rimOf g cvd (nI v) = some s ∧ s8 s ∧ ∀ t, t < 8 → (bt s t = true ↔ (∃ a, Cov (gE g) v a ∧ gE g a t) ∧ (¬ Cov (gE g) v t ∨ t = v)) := by
  have key : ∀ (j k fuel : Nat) (acc : Int32), k + j = 8 → j < fuel → s8 acc → (∀ t, bt acc t = true ↔ ∃ a, a < k ∧ Cov (gE g) v a ∧ gE g a t) → ∃ w, mX2_rimOf_L11 g cvd (nI v) fuel acc (nI k) = mX2_rimOf_J45 cvd (nI v) w ∧ s8 w ∧ ∀ t, bt w t = true ↔ ∃ a, Cov (gE g) v a ∧ gE g a t := by
    intro j
    induction j with
    | zero =>
      intro k fuel acc hj hf hs hb
      obtain ⟨m, rfl⟩ := fuel_s hf
      exact ⟨acc, by rw [mX2_rimOf_L11, if_pos (le8_t (by omega) (by omega))], hs, fun t => (hb t).trans ⟨fun ⟨a, _, q⟩ => ⟨a, q⟩, fun ⟨a, q⟩ => ⟨a, by have := q.2.1; omega, q⟩⟩⟩
    | succ j ih =>
      intro k fuel acc hj hf hs hb
      obtain ⟨m, rfl⟩ := fuel_s hf
      have hk : k < 8 := by omega
      rw [mX2_rimOf_L11, if_neg (le8_f hk), mX2_coveredBy, isIn_n _ hk, nI_1]
      by_cases hc : bt (mX5_line cvd (nI v)) k = true
      · rw [if_pos hc]
        refine ih (k + 1) m _ (by omega) (by omega) (s8_or hs (s8_line _ hk)) fun t => ?_
        rw [b_or, Bool.or_eq_true, hb t, gE_line hk t]
        constructor
        · rintro (⟨a, q1, q2⟩ | q)
          · exact ⟨a, by omega, q2⟩
          · exact ⟨k, by omega, (h.cvs hv k).mp hc, q⟩
        · rintro ⟨a, q1, q2, q3⟩
          rcases Nat.lt_succ_iff_lt_or_eq.mp q1 with z | z
          · exact Or.inl ⟨a, z, q2, q3⟩
          · subst z; exact Or.inr q3
      · rw [if_neg hc]
        refine ih (k + 1) m _ (by omega) (by omega) hs fun t => (hb t).trans ⟨fun ⟨a, q1, q2⟩ => ⟨a, by omega, q2⟩, fun ⟨a, q1, q2⟩ => ⟨a, ?_, q2⟩⟩
        rcases Nat.lt_succ_iff_lt_or_eq.mp q1 with z | z
        · exact z
        · subst z; exact absurd ((h.cvs hv a).mpr q2.1) hc
  obtain ⟨w, e, sw, bw⟩ := key 8 0 kFU 0 rfl (kFU_b (by omega)) s8_0 (fun t => by rw [b_0]; exact ⟨fun q => (by cases q), fun ⟨a, q, _⟩ => absurd q (Nat.not_lt_zero _)⟩)
  refine ⟨w &&& ((mX2_coveredBy cvd (nI v) ^^^ (-1)) ||| mX5_only (nI v)), by rw [mX2_rimOf]; exact e.trans (by rw [mX2_rimOf_J45]), s8_andl sw _, fun t ht => ?_⟩
  rw [b_and, b_or, b_not _ (by omega), only_b (by omega), Bool.and_eq_true, bw t, Bool.or_eq_true, Bool.not_eq_true', decide_eq_true_eq, mX2_coveredBy, Bool.eq_false_iff, ne_eq, h.cvs hv]
theorem mrim_n (h : mdR now L E nx) (hE : okE E) (hc : mcR cov mrch (pE (ePr E))) {v : Nat} (hv : v < 8) : ∃ s, mX11_rimOf now cov (nI L) (nI v) = some s ∧ s8 s ∧ ∀ t, t < 8 → (bt s t = true ↔ (∃ a, Cov (pE (ePr E)) v a ∧ pE (ePr E) a t) ∧ (¬ Cov (pE (ePr E)) v t ∨ t = v)) := by
  have h4 := h.2.2.2.1
  have key : ∀ (l : List (Nat × Nat)) (k fuel : Nat) (acc : Int32), E.drop k = l → k ≤ E.length → l.length < fuel → s8 acc → ∃ s, mX11_rimOf_L5 now cov (nI L) (nI v) fuel acc (nI k) = some s ∧ s8 s ∧ ∀ t, t < 8 → (bt s t = true ↔ bt acc t = true ∨ ((∃ e, e ∈ l ∧ Cov (pE (ePr E)) v (e.2 / 10) ∧ e.2 % 10 = t) ∧ (¬ Cov (pE (ePr E)) v t ∨ t = v))) := by
    intro l
    induction l with
    | nil =>
      intro k fuel acc hd hke hf hs
      obtain ⟨m, rfl⟩ := fuel_s hf
      have hk := dropN hd
      refine ⟨acc, ?_, hs, fun t _ => ⟨Or.inl, fun q => q.elim id fun ⟨⟨e, he, _⟩, _⟩ => absurd he List.not_mem_nil⟩⟩
      rw [mX11_rimOf_L5, md_many h, Option.bind_some, if_pos ((nI_leI (by omega) (by omega)).mpr hk)]
    | cons e l ih =>
      intro k fuel acc hd hke hf hs
      obtain ⟨m, rfl⟩ := fuel_s hf
      obtain ⟨g1, g2, g3⟩ := dropC hd
      have hm := hE.2.1 e (List.mem_of_getElem? g2)
      have ha : e.2 / 10 < 8 := by omega
      have hb : e.2 % 10 < 8 := by omega
      have go : ∀ z : Int32, s8 (acc ||| z) → (∀ t, t < 8 → (bt (acc ||| z) t = true ↔ bt acc t = true ∨ (Cov (pE (ePr E)) v (e.2 / 10) ∧ e.2 % 10 = t ∧ (¬ Cov (pE (ePr E)) v t ∨ t = v)))) → ∃ s, mX11_rimOf_L5 now cov (nI L) (nI v) m (acc ||| z) (nI k + 1) = some s ∧ s8 s ∧ ∀ t, t < 8 → (bt s t = true ↔ bt acc t = true ∨ ((∃ e', e' ∈ e :: l ∧ Cov (pE (ePr E)) v (e'.2 / 10) ∧ e'.2 % 10 = t) ∧ (¬ Cov (pE (ePr E)) v t ∨ t = v))) := by
        intro z hz hbz
        rw [nI_1]
        obtain ⟨s, e1, e2, e3⟩ := ih (k + 1) m (acc ||| z) g3 (by omega) (by simp only [List.length_cons] at hf; omega) hz
        refine ⟨s, e1, e2, fun t ht => ?_⟩
        rw [e3 t ht, hbz t ht]
        constructor
        · rintro ((q | ⟨q1, q2, q3⟩) | ⟨⟨e', he, q1, q2⟩, q3⟩)
          · exact Or.inl q
          · exact Or.inr ⟨⟨e, List.mem_cons_self, q1, q2⟩, q3⟩
          · exact Or.inr ⟨⟨e', List.mem_cons_of_mem _ he, q1, q2⟩, q3⟩
        · rintro (q | ⟨⟨e', he, q1, q2⟩, q3⟩)
          · exact Or.inl (Or.inl q)
          · rcases List.mem_cons.mp he with z | z
            · subst z; exact Or.inl (Or.inr ⟨q1, q2, q3⟩)
            · exact Or.inr ⟨⟨e', z, q1, q2⟩, q3⟩
      have nogo : (∀ t, ¬ (Cov (pE (ePr E)) v (e.2 / 10) ∧ e.2 % 10 = t ∧ (¬ Cov (pE (ePr E)) v t ∨ t = v))) → ∃ s, mX11_rimOf_L5 now cov (nI L) (nI v) m (acc ||| 0) (nI k + 1) = some s ∧ s8 s ∧ ∀ t, t < 8 → (bt s t = true ↔ bt acc t = true ∨ ((∃ e', e' ∈ e :: l ∧ Cov (pE (ePr E)) v (e'.2 / 10) ∧ e'.2 % 10 = t) ∧ (¬ Cov (pE (ePr E)) v t ∨ t = v))) := fun hno => go 0 (by rw [or0]; exact hs) fun t _ => by
        rw [or0]; exact ⟨Or.inl, fun q => q.resolve_right (hno t)⟩
      have yes : Cov (pE (ePr E)) v (e.2 / 10) → (¬ Cov (pE (ePr E)) v (e.2 % 10) ∨ e.2 % 10 = v) → ∃ s, mX11_rimOf_L5 now cov (nI L) (nI v) m (acc ||| mX5_only (nI (e.2 % 10))) (nI k + 1) = some s ∧ s8 s ∧ ∀ t, t < 8 → (bt s t = true ↔ bt acc t = true ∨ ((∃ e', e' ∈ e :: l ∧ Cov (pE (ePr E)) v (e'.2 / 10) ∧ e'.2 % 10 = t) ∧ (¬ Cov (pE (ePr E)) v t ∨ t = v))) := fun q1 q2 => go _ (s8_or hs (s8_only hb)) fun t _ => by
        rw [b_or, only_b (by omega), Bool.or_eq_true, decide_eq_true_eq]
        exact ⟨fun z => z.imp_right fun w => by subst w; exact ⟨q1, rfl, q2⟩, fun z => z.imp_right fun w => w.2.1.symm⟩
      have hbit : ∀ x, x < 8 → (bt (cov x) v = true ↔ Cov (pE (ePr E)) v x) := fun x hx => (hc.2.2 x hx).2 v
      rw [mX11_rimOf_L5, md_many h, Option.bind_some, if_neg (fun q => by have := (nI_leI (by omega) (by omega)).mp q; omega), md_to h hE g2, Option.bind_some, md_from h hE g2, Option.bind_some, gd_n ha (by omega), i_cl (by omega), has_n _ (by omega)]
      by_cases h1 : bt (cov (e.2 / 10)) v = true
      · rw [if_pos h1, gd_n hb (by omega), i_cl (by omega), has_n _ (by omega)]
        have c1 := (hbit _ ha).mp h1
        by_cases h2 : bt (cov (e.2 % 10)) v = true
        · rw [if_pos h2]
          by_cases h3 : e.2 % 10 = v
          · rw [if_pos (by rw [h3])]
            exact yes c1 (Or.inr h3)
          · rw [if_neg (fun q => h3 ((nI_eq (by omega) (by omega)).mp q))]
            refine nogo fun t q => ?_
            have := q.2.1
            subst this
            exact q.2.2.elim (fun z => z ((hbit _ hb).mp h2)) h3
        · rw [if_neg h2]
          exact yes c1 (Or.inl fun q => h2 ((hbit _ hb).mpr q))
      · rw [if_neg h1]
        exact nogo fun t q => h1 ((hbit _ ha).mpr q.1)
  obtain ⟨s, e1, e2, e3⟩ := key E 0 kFU 0 rfl (Nat.zero_le _) (kFU_b (by omega)) s8_0
  refine ⟨s, e1, e2, fun t ht => ?_⟩
  rw [e3 t ht, b_0]
  constructor
  · rintro (q | ⟨⟨e, he, q1, rfl⟩, q3⟩)
    · cases q
    · have hm := hE.2.1 e he
      exact ⟨⟨e.2 / 10, q1, by omega, by omega, by rw [show 10 * (e.2 / 10) + e.2 % 10 = e.2 by omega]; exact List.mem_map.mpr ⟨e, he, rfl⟩⟩, q3⟩
  · rintro ⟨⟨a, q1, q2⟩, q3⟩
    obtain ⟨e, he, h5⟩ := List.mem_map.mp q2.2.2
    have h6 := q2.1
    refine Or.inr ⟨⟨e, he, ?_, by omega⟩, q3⟩
    rw [show e.2 / 10 = a by omega]; exact q1
theorem bcR.rim (h : bcR g cvd cvr rch cov mrch (pE (ePr E))) (hd : mdR now L E nx) (hE : okE E) {v : Nat} (hv : v < 8) : ∃ s, mX2_rimOf g cvd (nI v) = some s ∧ mX11_rimOf now cov (nI L) (nI v) = some s ∧ s8 s ∧ (¬ bt rch v = true → s = 0) := by
  obtain ⟨s, e1, s1, b1⟩ := rim_n h.1 hv
  obtain ⟨s2, e2, t2, b2⟩ := mrim_n hd hE h.2.2 hv
  have : s = s2 := s8_ext s1 t2 fun i hi => by rw [Bool.eq_iff_iff, b1 i hi, b2 i hi, h.2.1]
  subst this
  refine ⟨s, e1, e2, s1, fun hr => (s0_iff s1).mpr fun i hi => Bool.eq_false_iff.mpr fun q => ?_⟩
  obtain ⟨⟨a, q1, -⟩, -⟩ := (b1 i hi).mp q
  exact hr ((h.1.2.1 v).mpr q1.ra1)
/-- the nearest that covers two -/
theorem near_ex (hR : ∀ d, RA R d → d < 8) {a b : Nat} (ha : RA R a) (hb : RA R b) : ∃ m, m < 8 ∧ ∀ d, (Cov R d a ∧ Cov R d b) ↔ Cov R d m := by
  obtain ⟨m, hm, hP, hx⟩ := maxOf (fun d => Cov R d a ∧ Cov R d b) (fun x y => Cov R x y) (fun x hx => Cov.self hx.1.ra1) (fun _ _ _ h1 h2 => h1.trans h2) (fun x y hx hy => hx.1.chain hy.1) 8 ⟨0, by omega, Cov.root ha, Cov.root hb⟩
  exact ⟨m, hm, fun d => ⟨fun q => hx d (hR d q.1.ra1) q, fun q => ⟨q.trans hP.1, q.trans hP.2⟩⟩⟩
theorem near_uniq {m m' : Nat} (hm : RA R m) (hm' : RA R m') (h : ∀ d, Cov R d m ↔ Cov R d m') : m = m' := ((h m).mp (Cov.self hm)).anti ((h m').mpr (Cov.self hm'))
theorem near_class (h : cvR g cvd cvr rch) {a b : Nat} (ha : a < 8) (hb : b < 8) (ra : RA (gE g) a) (rb : RA (gE g) b) : ∃ m, m < 8 ∧ RA (gE g) m ∧ mX2_coveredByJust cvr (mX2_coverersOf cvr (nI a) &&& mX2_coverersOf cvr (nI b)) = some (nI m) ∧ ∀ d, (Cov (gE g) d a ∧ Cov (gE g) d b) ↔ Cov (gE g) d m := by
  obtain ⟨m, hm, hc⟩ := near_ex (fun _ => RA8) ra rb
  have hs : s8 (mX2_coverersOf cvr (nI a) &&& mX2_coverersOf cvr (nI b)) := s8_andl (s8_line _ ha) _
  have hbit : ∀ d, bt (mX2_coverersOf cvr (nI a) &&& mX2_coverersOf cvr (nI b)) d = true ↔ Cov (gE g) d a ∧ Cov (gE g) d b := fun d => by
    rw [b_and, Bool.and_eq_true, mX2_coverersOf, mX2_coverersOf, h.of ha, h.of hb]
  have hrm : RA (gE g) m := ((hc 0).mp ⟨Cov.root ra, Cov.root rb⟩).ra2
  have h0 : (mX2_coverersOf cvr (nI a) &&& mX2_coverersOf cvr (nI b)) ≠ 0 := fun q => by
    have := (hbit 0).mpr ⟨Cov.root ra, Cov.root rb⟩
    rw [q, b_0] at this
    cases this
  rcases just_n h hs with ⟨l, hl, e, -, hq⟩ | ⟨-, hq⟩
  · have hlm : ∀ d, Cov (gE g) d l ↔ Cov (gE g) d m := fun d => (hq d).symm.trans ((hbit d).trans (hc d))
    have hrl : RA (gE g) l := ((hlm 0).mpr (Cov.root hrm)).ra2
    have : l = m := near_uniq hrl hrm hlm
    subst this
    exact ⟨l, hl, hrl, e, hc⟩
  · exact absurd (fun d => (hbit d).trans (hc d)) (hq m hm h0)
end RIM
