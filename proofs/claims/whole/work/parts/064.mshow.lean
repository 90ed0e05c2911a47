/-! the reference's showing: the least -/
theorem next_perm (p : List Nat) (x y : Nat) (s1 s2 : List Nat) : (p ++ y :: (s1 ++ x :: s2).reverse).Perm (p ++ x :: (s1 ++ y :: s2)) := by
  refine List.Perm.append_left p ?_
  refine ((List.reverse_perm _).trans List.perm_middle).cons y |>.trans ?_
  refine (List.Perm.swap x y _).trans ?_
  exact (List.perm_middle.symm).cons x
section MSH
variable {E : List (Nat × Nat)} {now : Nat → Int32} {nx : Nat}
theorem mshow_loop (h : mdR now 0 E nx) (hE : okE E) {r2 : Int32 × (Nat → Int32)} (hc : mcR r2.2 r2.1 (pE (ePr E))) (hR : ∀ d, RA (pE (ePr E)) d → d < 8) {Tm : List Nat} (hm : isLeast (pE (ePr E)) Tm) (p1 : Int32) : ∀ (fuel : Nat) (T : List Nat) (sh : Nat → Int32), shR sh T → (∀ v, v ∈ T ↔ RA (pE (ePr E)) v) → T.Nodup → (∃ t, T = 0 :: t) → LLe T Tm → 8 ^ T.length < fuel + valR T → ∃ sh', mX11_showing_L107 now p1 r2 (nI T.length) fuel true sh = mX11_showing_J130 p1 r2 true sh' ∧ shR sh' Tm := by
  intro fuel
  induction fuel with
  | zero =>
    intro T sh _ hT _ _ _ hf
    have := valR_lt T fun x hx => hR x ((hT x).mp hx)
    omega
  | succ m ih =>
    intro T sh hs hT hn h0 hle hf
    have h8 : ∀ z, z ∈ T → z < 8 := fun z hz => hR z ((hT z).mp hz)
    have hl := nodup8 hn h8
    rw [mX11_showing_L107, if_pos rfl, mfirst_n h hE hc hR hs (fun z hz => by have := h8 z hz; omega) hl, Option.bind_some]
    by_cases h9 : fwR (pE (ePr E)) T = -9
    · rw [if_pos h9]
      have hv := (fwR_vrow hl hT).mp h9
      have : T = Tm := hle.anti (hm.2 T hv)
      exact ⟨sh, rfl, by rw [← this]; exact hs⟩
    · rw [if_neg h9]
      have hne : T ≠ Tm := fun z => h9 ((fwR_vrow hl hT).mpr (by rw [z]; exact hm.1))
      have hTm : ∀ z, z ∈ Tm ↔ z ∈ T := fun z => (hm.1.1 z).trans (hT z).symm
      rcases nextRow_n hs h8 hn h0 with ⟨-, t, e, hd⟩ | ⟨p, x, s1, y, s2, sh', e, hp, hd, hxy, hz, en, hs'⟩
      · exfalso
        obtain ⟨tm, etm⟩ := hm.1.2.2.1
        have hnm := hm.1.2.1
        rw [e, etm] at hle
        rcases hle with q | ⟨-, q⟩
        · omega
        · rw [etm] at hnm hTm
          rw [e] at hn hTm
          have := dsc_most t tm hd (List.nodup_cons.mp hnm).2 (same_tail hnm hn hTm)
          exact hne (by rw [e, etm, q.anti this])
      · rw [en, Option.bind_some]
        have hperm := next_perm p x y s1 s2
        rw [← e] at hperm
        have hlen := hperm.length_eq
        have hval : valR T < valR (p ++ y :: (s1 ++ x :: s2).reverse) := by
          rw [e]
          exact valR_step p x y _ _ (by rw [List.length_reverse, List.length_append, List.length_append, List.length_cons, List.length_cons]) (fun z hz' => h8 z (by rw [e]; exact List.mem_append_right _ (List.mem_cons_of_mem _ hz'))) hxy
        have := ih (p ++ y :: (s1 ++ x :: s2).reverse) sh' hs' (fun v => (hperm.mem_iff).trans (hT v)) (hperm.nodup_iff.mpr hn) (by
          obtain ⟨t, et⟩ := h0
          cases p with
          | nil => exact absurd rfl hp
          | cons a p =>
            rw [et, List.cons_append, List.cons.injEq] at e
            exact ⟨_, by rw [← e.1]; rfl⟩) (next_le p x y s1 s2 Tm (by rw [← e]; exact hn) hd hxy hz hm.1.2.1 (by rw [← e]; exact hTm) (by rw [← e]; exact hle) (by rw [← e]; exact hne)) (by rw [hlen]; omega)
        rw [hlen] at this
        exact this
/-- the first row: the reached ones in their order -/
theorem mfill_n {r2 : Int32 × (Nat → Int32)} {R : Nat → Nat → Prop} (hc : mcR r2.2 r2.1 R) (p1 : Int32) (sh : Nat → Int32) : ∃ T sh', mX11_showing_L9 now p1 r2 kFU 0 0 sh = mX11_showing_J89 now p1 r2 (nI T.length) sh' ∧ shR sh' T ∧ Asc T ∧ (∀ x, x ∈ T ↔ RA R x) ∧ T.length = ct r2.1 := by
  have key : ∀ (j k fuel : Nat) (T : List Nat) (sh : Nat → Int32), k + j = 8 → j < fuel → shR sh T → Asc T → (∀ x, x ∈ T ↔ x < k ∧ RA R x) → T.length = ctk r2.1 k → ∃ T' sh', mX11_showing_L9 now p1 r2 fuel (nI T.length) (nI k) sh = mX11_showing_J89 now p1 r2 (nI T'.length) sh' ∧ shR sh' T' ∧ Asc T' ∧ (∀ x, x ∈ T' ↔ RA R x) ∧ T'.length = ct r2.1 := by
    intro j
    induction j with
    | zero =>
      intro k fuel T sh hk hf hs hA hm hl
      obtain ⟨m, rfl⟩ := fuel_s hf
      have : k = 8 := by omega
      subst this
      rw [mX11_showing_L9, if_pos (le8_t (by omega) (by omega))]
      refine ⟨T, sh, rfl, hs, hA, fun x => (hm x).trans ⟨fun q => q.2, fun q => ⟨?_, q⟩⟩, by rw [hl, ctk8]⟩
      have := (hc.2.1 x).mpr q
      exact s8_lt hc.1 this
    | succ j ih =>
      intro k fuel T sh hk hf hs hA hm hl
      obtain ⟨m, rfl⟩ := fuel_s hf
      have hk8 : k < 8 := by omega
      have hTk : T.length ≤ k := by rw [hl]; exact ctk_le _ _
      rw [mX11_showing_L9, if_neg (le8_f hk8), if_neg (le8_f (by omega)), mX11_showing_J31, has_n _ (by omega)]
      by_cases hr : bt r2.1 k = true
      · rw [if_pos hr, mX11_showing_J63, gd_n (by omega) (by omega), has_n _ (by omega), if_pos hr, i_cl (a := T.length) (by omega), nI_1, nI_1]
        have hra := (hc.2.1 k).mp hr
        have := ih (k + 1) m (T ++ [k]) (upd sh T.length (nI k)) (by omega) (by omega) (fun i x hx => by
          by_cases hi : i < T.length
          · rw [List.getElem?_append_left hi] at hx
            rw [upd_n (by omega)]; exact hs i x hx
          · rw [List.getElem?_append_right (by omega)] at hx
            have hi2 : i = T.length := by
              rcases Nat.lt_or_ge (i - T.length) 1 with z | z
              · omega
              · rw [List.getElem?_eq_none (by rw [List.length_singleton]; omega)] at hx; cases hx
            subst hi2
            rw [Nat.sub_self, List.getElem?_cons_zero, Option.some.injEq] at hx
            rw [upd_s, hx]) (List.pairwise_append.mpr ⟨hA, List.pairwise_singleton _ _, fun a ha b hb => by
            rw [List.mem_singleton] at hb
            rw [hb]; exact ((hm a).mp ha).1⟩) (fun x => by
            rw [List.mem_append, List.mem_singleton, hm x]
            exact ⟨fun q => by
              rcases q with q | q
              · exact ⟨by omega, q.2⟩
              · rw [q]; exact ⟨by omega, hra⟩, fun q => by
              rcases Nat.lt_succ_iff_lt_or_eq.mp q.1 with z | z
              · exact Or.inl ⟨z, q.2⟩
              · exact Or.inr z⟩) (by rw [List.length_append, List.length_singleton, ctk, hr, hl]; rfl)
        rw [List.length_append, List.length_singleton] at this
        exact this
      · rw [if_neg hr, if_neg (le8_f (by omega)), gd_n (by omega) (by omega), mX11_showing_J63, gd_n (by omega) (by omega), has_n _ (by omega), if_neg hr, i_cl (a := T.length) (by omega), nI_1]
        have e0 : nI T.length + 0 = nI T.length := Int32.add_zero _
        rw [e0]
        refine ih (k + 1) m T _ (by omega) (by omega) (fun i x hx => ?_) hA (fun x => (hm x).trans ⟨fun q => ⟨by omega, q.2⟩, fun q => ⟨?_, q.2⟩⟩) (by rw [ctk, Bool.eq_false_iff.mpr hr, hl]; rfl)
        · have : i < T.length := (List.getElem?_eq_some_iff.mp hx).1
          rw [upd_n (by omega)]; exact hs i x hx
        · rcases Nat.lt_succ_iff_lt_or_eq.mp q.1 with z | z
          · exact z
          · subst z; exact absurd ((hc.2.1 x).mpr q.2) hr
  exact key 8 0 kFU [] sh rfl (kFU_b (by omega)) (fun i x hx => by simp at hx) List.Pairwise.nil (fun x => ⟨fun q => absurd q List.not_mem_nil, fun q => absurd q.1 (Nat.not_lt_zero _)⟩) rfl
end MSH
