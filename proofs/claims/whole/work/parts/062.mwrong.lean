/-! what the reference finds wrong first in a row -/
theorem plcP_9b {l : List Nat} (h : l.length ≤ 1000) {v : Nat} : plcP l v = -9 ↔ v ∉ l := by
  unfold plcP
  by_cases e : v ∈ l
  · rw [if_pos e]
    have := List.idxOf_lt_length_of_mem e
    exact ⟨fun q => absurd q (by rw [i_ne9 (by omega)]; exact id), fun q => absurd e q⟩
  · rw [if_neg e]; exact ⟨fun _ => e, fun _ => rfl⟩
theorem in07 : ∀ x, x < 10 → mX11_in ((nI x).toInt64) 0 7 = decide (x < 8) := by decide +kernel
section MWR
variable {E : List (Nat × Nat)} {now cov sh : Nat → Int32} {nx : Nat} {mrch : Int32}
theorem j45_n (K : Bool → Bool → Int32 → Option Bool) {j k x v : Nat} (hj8 : j < 8) (hk8 : k < 8) (hx : x < 8) (hv : v < 8) (hj : sh j = nI x) (hk : sh k = nI v) (bf af ed : Bool) : mX11_isShown_J45 K cov sh (nI k) bf af (nI j) ed = K (bf || (ed && decide (j < k))) (af || (ed && decide (k < j) && !bt (cov x) v)) (nI (j + 1)) := by
  have e68 : ∀ s, mX11_isShown_J68 K cov sh (nI k) af (nI j) ed s = K s (af || (ed && decide (k < j) && !bt (cov x) v)) (nI (j + 1)) := by
    intro s
    rw [mX11_isShown_J68]
    simp only [nI_1]
    cases af with
    | true => rw [if_pos rfl, Bool.true_or]
    | false =>
      rw [if_neg Bool.false_ne_true]
      cases ed with
      | false => rw [if_neg Bool.false_ne_true]; rfl
      | true =>
        rw [if_pos rfl]
        by_cases hjk : j ≤ k
        · rw [if_pos (nI_le_t hjk (by omega)), decide_eq_false (show ¬ k < j by omega)]; rfl
        · rw [if_neg (nI_le_f (by omega) (by omega)), gd_n hj8 (by omega), i_cl (a := j) (by omega), hj, gd_n hx (by omega), i_cl (a := x) (by omega), i_cl (a := k) (by omega), hk, has_n _ (by omega), decide_eq_true (show k < j by omega)]
          cases bt (cov x) v with
          | true => rw [if_pos rfl]; rfl
          | false => rw [if_neg Bool.false_ne_true]; rfl
  rw [mX11_isShown_J45]
  cases bf with
  | true => rw [if_pos rfl, e68, Bool.true_or]
  | false =>
    rw [if_neg Bool.false_ne_true]
    cases ed with
    | false => rw [if_neg Bool.false_ne_true, e68]; rfl
    | true =>
      rw [if_pos rfl]
      by_cases hjk : k ≤ j
      · rw [if_pos (nI_le_t hjk (by omega)), e68, decide_eq_false (show ¬ j < k by omega)]; rfl
      · rw [if_neg (nI_le_f (by omega) (by omega)), e68, decide_eq_true (show j < k by omega)]; rfl
theorem mshown_n (h : mdR now 0 E nx) (hE : okE E) (hc : mcR cov mrch (pE (ePr E))) {p q : List Nat} {v : Nat} (hs : shR sh (p ++ v :: q)) (h8 : ∀ z, z ∈ p ++ v :: q → z < 8) (hl : (p ++ v :: q).length ≤ 8) (hlid : ∃ l, l < 8 ∧ isLid (pE (ePr E)) l v) (hR : ∀ d, RA (pE (ePr E)) d → d < 8) : ∃ b, mX11_isShown mrch now cov sh (nI p.length) (nI (p ++ v :: q).length) = some b ∧ (b = true ↔ Shn (pE (ePr E)) p v q) := by
  have hfind : ∀ a b, a < 10 → b < 10 → mX11_find now 0 (nI a) (nI b) = some (plcP (ePr E) (10 * a + b)) := fun a b ha hb => md_find (L := 0) h hE ha hb
  have hel : (ePr E).length ≤ 1000 := by have := hE.1; unfold ePr; rw [List.length_map]; omega
  have hv8 : v < 8 := h8 v (by simp)
  have hk := hs.at (k := p.length) rfl
  have hk8 : p.length < 8 := by rw [List.length_append, List.length_cons] at hl; omega
  generalize hT : p ++ v :: q = T at hs h8 hl
  have key : ∀ (r j fuel : Nat) (bf af : Bool), j + r = T.length → r < fuel → (bf = true ↔ ∃ i x, i < j ∧ i < p.length ∧ T[i]? = some x ∧ pE (ePr E) x v) → (af = true ↔ ∃ i x, i < j ∧ p.length < i ∧ T[i]? = some x ∧ pE (ePr E) x v ∧ ¬ Cov (pE (ePr E)) v x) → ∃ bf' af', mX11_isShown_L16 mrch now cov sh (nI p.length) (nI T.length) fuel bf af (nI j) = mX11_isShown_J118 mrch now cov sh (nI p.length) bf' af' ∧ (bf' = true ↔ ∃ i x, i < T.length ∧ i < p.length ∧ T[i]? = some x ∧ pE (ePr E) x v) ∧ (af' = true ↔ ∃ i x, i < T.length ∧ p.length < i ∧ T[i]? = some x ∧ pE (ePr E) x v ∧ ¬ Cov (pE (ePr E)) v x) := by
    intro r
    induction r with
    | zero =>
      intro j fuel bf af hj hf hb ha
      obtain ⟨m, rfl⟩ := fuel_s hf
      have : j = T.length := by omega
      subst this
      rw [mX11_isShown_L16, if_pos (nI_le_t (Nat.le_refl _) (by omega))]
      exact ⟨bf, af, rfl, hb, ha⟩
    | succ r ih =>
      intro j fuel bf af hj hf hb ha
      obtain ⟨m, rfl⟩ := fuel_s hf
      have hjl : j < T.length := by omega
      obtain ⟨x, hx⟩ : ∃ x, T[j]? = some x := ⟨_, List.getElem?_eq_getElem hjl⟩
      have hx8 := h8 x (List.mem_of_getElem? hx)
      have hsx := hs j x hx
      have hstep : ∀ ed : Bool, (ed = true ↔ pE (ePr E) x v) → ∃ bf' af', mX11_isShown_J45 (mX11_isShown_L16 mrch now cov sh (nI p.length) (nI T.length) m) cov sh (nI p.length) bf af (nI j) ed = mX11_isShown_J118 mrch now cov sh (nI p.length) bf' af' ∧ (bf' = true ↔ ∃ i x, i < T.length ∧ i < p.length ∧ T[i]? = some x ∧ pE (ePr E) x v) ∧ (af' = true ↔ ∃ i x, i < T.length ∧ p.length < i ∧ T[i]? = some x ∧ pE (ePr E) x v ∧ ¬ Cov (pE (ePr E)) v x) := by
        intro ed hed
        rw [j45_n _ (by omega) hk8 hx8 hv8 hsx hk]
        refine ih (j + 1) m _ _ (by omega) (by omega) ?_ ?_
        · rw [Bool.or_eq_true, hb, Bool.and_eq_true, hed, decide_eq_true_eq]
          constructor
          · rintro (⟨i, y, i1, i2, i3, i4⟩ | ⟨e1, e2⟩)
            · exact ⟨i, y, by omega, i2, i3, i4⟩
            · exact ⟨j, x, by omega, e2, hx, e1⟩
          · rintro ⟨i, y, i1, i2, i3, i4⟩
            rcases Nat.lt_succ_iff_lt_or_eq.mp i1 with z | z
            · exact Or.inl ⟨i, y, z, i2, i3, i4⟩
            · subst z
              rw [hx, Option.some.injEq] at i3
              subst i3
              exact Or.inr ⟨i4, i2⟩
        · rw [Bool.or_eq_true, ha, Bool.and_eq_true, Bool.and_eq_true, hed, decide_eq_true_eq, Bool.not_eq_true', Bool.eq_false_iff, ne_eq, (hc.2.2 x hx8).2 v]
          constructor
          · rintro (⟨i, y, i1, i2, i3, i4⟩ | ⟨⟨e1, e2⟩, e3⟩)
            · exact ⟨i, y, by omega, i2, i3, i4⟩
            · exact ⟨j, x, by omega, e2, hx, e1, e3⟩
          · rintro ⟨i, y, i1, i2, i3, i4, i5⟩
            rcases Nat.lt_succ_iff_lt_or_eq.mp i1 with z | z
            · exact Or.inl ⟨i, y, z, i2, i3, i4, i5⟩
            · subst z
              rw [hx, Option.some.injEq] at i3
              subst i3
              exact Or.inr ⟨⟨i4, i2⟩, i5⟩
      rw [mX11_isShown_L16, if_neg (nI_le_f hjl (by omega)), gd_n (by omega) (by omega), i_cl (a := j) (by omega), i_cl (a := p.length) (by omega), hsx, hk, hfind x v (by omega) (by omega), Option.bind_some]
      have hpe : pE (ePr E) x v ↔ 10 * x + v ∈ ePr E := ⟨fun q => q.2.2, fun q => ⟨hx8, hv8, q⟩⟩
      by_cases hno : plcP (ePr E) (10 * x + v) = -9
      · rw [if_pos hno]
        exact hstep false ⟨fun q => (by cases q), fun q => absurd (hpe.mp q) ((plcP_9b hel).mp hno)⟩
      · rw [if_neg hno]
        exact hstep true ⟨fun _ => hpe.mpr (Classical.byContradiction fun q => hno ((plcP_9b hel).mpr q)), fun _ => rfl⟩
  have e0 : nI 0 = (0 : Int32) := rfl
  obtain ⟨bf, af, e, hb, ha⟩ := key T.length 0 kFU false false (by omega) (kFU_b (by omega)) ⟨fun q => (by cases q), fun ⟨i, _, q, _⟩ => absurd q (Nat.not_lt_zero _)⟩ ⟨fun q => (by cases q), fun ⟨i, _, q, _⟩ => absurd q (Nat.not_lt_zero _)⟩
  rw [e0] at e
  have hb2 : bf = true ↔ ∃ x, x ∈ p ∧ pE (ePr E) x v := by
    rw [hb]
    constructor
    · rintro ⟨i, x, _, i2, i3, i4⟩
      rw [← hT, List.getElem?_append_left i2] at i3
      exact ⟨x, List.mem_of_getElem? i3, i4⟩
    · rintro ⟨x, hx, hp⟩
      obtain ⟨i, hi⟩ := List.mem_iff_getElem?.mp hx
      have hil : i < p.length := (List.getElem?_eq_some_iff.mp hi).1
      exact ⟨i, x, by rw [← hT, List.length_append]; omega, hil, by rw [← hT, List.getElem?_append_left hil]; exact hi, hp⟩
  have ha2 : af = true ↔ ∃ y, y ∈ q ∧ pE (ePr E) y v ∧ ¬ Cov (pE (ePr E)) v y := by
    rw [ha]
    constructor
    · rintro ⟨i, x, _, i2, i3, i4⟩
      rw [← hT, List.getElem?_append_right (by omega)] at i3
      obtain ⟨d, hd⟩ : ∃ d, i - p.length = d + 1 := ⟨i - p.length - 1, by omega⟩
      rw [hd, List.getElem?_cons_succ] at i3
      exact ⟨x, List.mem_of_getElem? i3, i4⟩
    · rintro ⟨x, hx, hp⟩
      obtain ⟨i, hi⟩ := List.mem_iff_getElem?.mp hx
      have hil : i < q.length := (List.getElem?_eq_some_iff.mp hi).1
      refine ⟨p.length + 1 + i, x, by rw [← hT, List.length_append, List.length_cons]; omega, by omega, ?_, hp⟩
      rw [← hT, List.getElem?_append_right (by omega), show p.length + 1 + i - p.length = i + 1 by omega, List.getElem?_cons_succ]
      exact hi
  obtain ⟨l0, hl0, hlid0⟩ := hlid
  rw [mX11_isShown, gd_n hk8 (by omega), e, mX11_isShown_J118, i_cl (a := p.length) (by omega), hk]
  rcases mlid_n hc hR hv8 with ⟨l, hl8, el, hlid⟩ | ⟨_, hno⟩
  · rw [el, Option.bind_some, hfind l v (by omega) (by omega), Option.bind_some]
    have hdir : (∃ l, isLid (pE (ePr E)) l v ∧ pE (ePr E) l v) ↔ 10 * l + v ∈ ePr E := by
      constructor
      · rintro ⟨l2, h2, g2⟩
        have : l2 = l := (hlid.2.2 l2 h2.1 h2.2.1).anti (h2.2.2 l hlid.1 hlid.2.1)
        subst this
        exact g2.2.2
      · exact fun q => ⟨l, hlid, hl8, hv8, q⟩
    by_cases hd : plcP (ePr E) (10 * l + v) = -9
    · rw [if_pos hd]
      have nd : ¬ ∃ l, isLid (pE (ePr E)) l v ∧ pE (ePr E) l v := fun z => (plcP_9b hel).mp hd (hdir.mp z)
      cases hbf : bf with
      | false =>
        rw [if_neg Bool.false_ne_true]
        exact ⟨false, rfl, ⟨fun z => (by cases z), fun z => by
          rcases z with z | ⟨z, _⟩
          · exact absurd z nd
          · rw [hb2.mpr z] at hbf; cases hbf⟩⟩
      | true =>
        rw [if_pos rfl]
        cases haf : af with
        | false =>
          rw [if_neg Bool.false_ne_true]
          exact ⟨false, rfl, ⟨fun z => (by cases z), fun z => by
            rcases z with z | ⟨_, z⟩
            · exact absurd z nd
            · rw [ha2.mpr z] at haf; cases haf⟩⟩
        | true =>
          rw [if_pos rfl]
          exact ⟨true, rfl, ⟨fun _ => Or.inr ⟨hb2.mp hbf, ha2.mp haf⟩, fun _ => rfl⟩⟩
    · rw [if_neg hd]
      exact ⟨true, rfl, ⟨fun _ => Or.inl (hdir.mpr (Classical.byContradiction fun z => hd ((plcP_9b hel).mpr z))), fun _ => rfl⟩⟩
  · exact absurd hlid0 (hno l0)
end MWR
