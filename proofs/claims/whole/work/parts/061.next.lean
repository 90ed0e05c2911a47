/-! the reference's next row -/
def shR (sh : Nat → Int32) (T : List Nat) : Prop := ∀ i x, T[i]? = some x → sh i = nI x
theorem shR.at {sh : Nat → Int32} {p q : List Nat} {x k : Nat} (h : shR sh (p ++ x :: q)) (hk : k = p.length) : sh k = nI x := by
  subst hk
  exact h _ _ (by rw [List.getElem?_append_right (Nat.le_refl _), Nat.sub_self]; rfl)
theorem shR.set {sh : Nat → Int32} {p q : List Nat} {x y k : Nat} (h : shR sh (p ++ x :: q)) (hk : k = p.length) : shR (upd sh k (nI y)) (p ++ y :: q) := by
  subst hk
  intro i z hz
  by_cases hi : i = p.length
  · subst hi
    rw [List.getElem?_append_right (Nat.le_refl _), Nat.sub_self, List.getElem?_cons_zero, Option.some.injEq] at hz
    rw [upd_s, hz]
  · rw [upd_n hi]
    refine h i z ?_
    rcases Nat.lt_or_ge i p.length with q1 | q1
    · rw [List.getElem?_append_left q1] at hz ⊢; exact hz
    · rw [List.getElem?_append_right q1] at hz ⊢
      obtain ⟨j, hj⟩ : ∃ j, i - p.length = j + 1 := ⟨i - p.length - 1, by omega⟩
      rw [hj, List.getElem?_cons_succ] at hz ⊢
      exact hz
theorem shR.swap {sh : Nat → Int32} {A B C : List Nat} {a b i j : Nat} (h : shR sh (A ++ a :: (B ++ b :: C))) (hi : i = A.length) (hj : j = A.length + 1 + B.length) : shR (upd (upd sh i (nI b)) j (nI a)) (A ++ b :: (B ++ a :: C)) := by
  have h1 := h.set (y := b) hi
  have h2 : shR (upd sh i (nI b)) ((A ++ b :: B) ++ b :: C) := by rw [List.append_assoc]; exact h1
  have h3 := h2.set (y := a) (k := j) (by rw [List.length_append, List.length_cons]; omega)
  rw [List.append_assoc] at h3
  exact h3
theorem nI_le_t {a b : Nat} (h : a ≤ b) (hb : b < 2 ^ 31) : nI a ≤ nI b := (nI_leI (by omega) hb).mpr h
theorem nI_le_f {a b : Nat} (h : b < a) (ha : a < 2 ^ 31) : ¬ nI a ≤ nI b := fun q => by have := (nI_leI ha (by omega)).mp q; omega
/-- the end turned round -/
theorem rev_n : ∀ (j : Nat) (M A C : List Nat) (sh : Nat → Int32) (a b fuel : Nat), M.length ≤ j → j < fuel → a = A.length → b + 1 = A.length + M.length → (A ++ (M ++ C)).length ≤ 8 → shR sh (A ++ (M ++ C)) → ∃ sh', mX11_nextRow_L101 fuel (nI a) (nI b) sh = some (true, sh') ∧ shR sh' (A ++ (M.reverse ++ C)) := by
  intro j
  induction j using Nat.strongRecOn with
  | ind j ih =>
    intro M A C sh a b fuel hj hf ha hb hl hs
    obtain ⟨m, rfl⟩ := fuel_s hf
    have hl2 := hl
    rw [List.length_append, List.length_append] at hl2
    rw [mX11_nextRow_L101]
    cases M with
    | nil =>
      rw [if_pos (nI_le_t (by simp at hb; omega) (by omega))]
      exact ⟨sh, rfl, hs⟩
    | cons c M =>
      rw [List.length_cons] at hj hb hl2
      by_cases hM : M = []
      · subst hM
        rw [if_pos (nI_le_t (by simp at hb; omega) (by omega))]
        exact ⟨sh, rfl, hs⟩
      · obtain ⟨M, d, rfl⟩ := last_ex M hM
        rw [List.length_append, List.length_singleton] at hj hb hl2
        rw [if_neg (nI_le_f (by omega) (by omega)), gd_n (by omega) (by omega), gd_n (by omega) (by omega), gd_n (by omega) (by omega), gd_n (by omega) (by omega), i_cl (a := a) (by omega), i_cl (a := b) (by omega)]
        have hs1 : shR sh (A ++ c :: (M ++ d :: C)) := by
          have e : A ++ (c :: (M ++ [d]) ++ C) = A ++ c :: (M ++ d :: C) := by simp
          rw [← e]; exact hs
        have hs1b : shR sh ((A ++ c :: M) ++ d :: C) := by rw [List.append_assoc]; exact hs1
        rw [hs1.at ha, hs1b.at (k := b) (by rw [List.length_append, List.length_cons]; omega), nI_1, i_m1 (by omega)]
        have hs2 := hs1.swap ha (show b = A.length + 1 + M.length by omega)
        have hs3 : shR (upd (upd sh a (nI d)) b (nI c)) ((A ++ [d]) ++ (M ++ (c :: C))) := by rw [List.append_assoc]; exact hs2
        obtain ⟨sh', e', r'⟩ := ih (j - 2) (by omega) M (A ++ [d]) (c :: C) _ (a + 1) (b - 1) m (by omega) (by omega) (by rw [List.length_append, List.length_singleton]; omega) (by rw [List.length_append, List.length_singleton]; omega) (by simp only [List.length_append, List.length_cons, List.length_nil]; omega) hs3
        refine ⟨sh', e', ?_⟩
        have e : A ++ ((c :: (M ++ [d])).reverse ++ C) = (A ++ [d]) ++ (M.reverse ++ c :: C) := by simp
        rw [e]; exact r'
/-- changed for the last greater one behind, and the end turned round -/
theorem change_n {p s1 s2 : List Nat} {x y : Nat} {sh : Nat → Int32} (hs : shR sh (p ++ x :: (s1 ++ y :: s2))) (h8 : ∀ z, z ∈ p ++ x :: (s1 ++ y :: s2) → z < 8) (hxy : x ≤ y) (hz : ∀ z, z ∈ s2 → z < x) (hl : (p ++ x :: (s1 ++ y :: s2)).length ≤ 8) : ∃ sh', mX11_nextRow_L42 sh (nI (p ++ x :: (s1 ++ y :: s2)).length) (nI p.length) kFU (nI ((p ++ x :: (s1 ++ y :: s2)).length - 1)) = some (true, sh') ∧ shR sh' (p ++ y :: (s1 ++ x :: s2).reverse) := by
  have hx : x < 8 := h8 x (by simp)
  have hy : y < 8 := h8 y (by simp)
  have hlen : (p ++ x :: (s1 ++ y :: s2)).length = p.length + s1.length + s2.length + 2 := by simp only [List.length_append, List.length_cons]; omega
  have hxa := hs.at rfl
  rw [hlen] at hl ⊢
  have key : ∀ (t k fuel : Nat) (u w : List Nat), s2 = u ++ w → u.length = t → t < fuel → k = p.length + s1.length + 1 + t → ∃ sh', mX11_nextRow_L42 sh (nI (p.length + s1.length + s2.length + 2)) (nI p.length) fuel (nI k) = some (true, sh') ∧ shR sh' (p ++ y :: (s1 ++ x :: s2).reverse) := by
    intro t
    induction t with
    | zero =>
      intro k fuel u w hu hut hf hk
      obtain ⟨m, rfl⟩ := fuel_s hf
      have hs1b : shR sh ((p ++ x :: s1) ++ y :: s2) := by rw [List.append_assoc]; exact hs
      have hky := hs1b.at (k := k) (by rw [List.length_append, List.length_cons]; omega)
      rw [mX11_nextRow_L42, gd_n (by omega) (by omega), gd_n (by omega) (by omega), i_cl (a := k) (by omega), i_cl (a := p.length) (by omega), hxa, hky, if_pos (nI_le_t hxy (by omega)), mX11_nextRow_J63, gd_n (by omega) (by omega), gd_n (by omega) (by omega), gd_n (by omega) (by omega), gd_n (by omega) (by omega), i_cl (a := k) (by omega), i_cl (a := p.length) (by omega), hxa, hky, nI_1, i_pred (by omega)]
      have hs2 := hs.swap rfl (show k = p.length + 1 + s1.length by omega)
      have hs3 : shR (upd (upd sh p.length (nI y)) k (nI x)) ((p ++ [y]) ++ ((s1 ++ x :: s2) ++ [])) := by
        have e : (p ++ [y]) ++ ((s1 ++ x :: s2) ++ []) = p ++ y :: (s1 ++ x :: s2) := by simp
        rw [e]; exact hs2
      obtain ⟨sh', e', r'⟩ := rev_n (s1 ++ x :: s2).length (s1 ++ x :: s2) (p ++ [y]) [] _ (p.length + 1) (p.length + s1.length + s2.length + 2 - 1) kFU (Nat.le_refl _) (kFU_b (by rw [List.length_append, List.length_cons]; omega)) (by simp) (by simp only [List.length_append, List.length_cons, List.length_nil]; omega) (by simp only [List.length_append, List.length_cons, List.length_nil]; omega) hs3
      refine ⟨sh', e', ?_⟩
      have e : (p ++ [y]) ++ ((s1 ++ x :: s2).reverse ++ []) = p ++ y :: (s1 ++ x :: s2).reverse := by simp
      rw [← e]; exact r'
    | succ t ih =>
      intro k fuel u w hu hut hf hk
      obtain ⟨m, rfl⟩ := fuel_s hf
      obtain ⟨u', c, rfl⟩ := last_ex u (fun q => by subst q; simp at hut)
      rw [List.length_append, List.length_singleton] at hut
      have hlu : t + 1 ≤ s2.length := by rw [hu]; simp only [List.length_append, List.length_singleton]; omega
      have hs1b : shR sh ((p ++ x :: (s1 ++ y :: u')) ++ c :: w) := by
        have e : (p ++ x :: (s1 ++ y :: u')) ++ c :: w = p ++ x :: (s1 ++ y :: s2) := by rw [hu]; simp
        rw [e]; exact hs
      have hkc := hs1b.at (k := k) (by simp only [List.length_append, List.length_cons]; omega)
      have hcx := hz c (by rw [hu]; simp)
      rw [mX11_nextRow_L42, gd_n (by omega) (by omega), gd_n (by omega) (by omega), i_cl (a := k) (by omega), i_cl (a := p.length) (by omega), hxa, hkc, if_neg (nI_le_f hcx (by omega)), i_m1 (by omega)]
      exact ih (k - 1) m u' (c :: w) (by rw [hu]; simp) (by omega) (by omega) (by omega)
  exact key s2.length _ kFU s2 [] (by simp) rfl (kFU_b (by omega)) (by omega)
/-- the next row: there is none, or it is the next -/
theorem nextRow_n {T : List Nat} {sh : Nat → Int32} (hs : shR sh T) (h8 : ∀ z, z ∈ T → z < 8) (hn : T.Nodup) (h0 : ∃ t, T = 0 :: t) : (mX11_nextRow sh (nI T.length) = some (false, sh) ∧ ∃ t, T = 0 :: t ∧ Dsc t) ∨ ∃ p x s1 y s2 sh', T = p ++ x :: (s1 ++ y :: s2) ∧ p ≠ [] ∧ Dsc (s1 ++ y :: s2) ∧ x < y ∧ (∀ z, z ∈ s2 → z < x) ∧ mX11_nextRow sh (nI T.length) = some (true, sh') ∧ shR sh' (p ++ y :: (s1 ++ x :: s2).reverse) := by
  have hl8 := nodup8 hn h8
  obtain ⟨t0, ht0⟩ := h0
  have key : ∀ (i fuel : Nat) (p s : List Nat) (x : Nat), T = p ++ x :: s → p.length = i → s ≠ [] → Dsc s → i < fuel → (mX11_nextRow_L4 sh (nI T.length) fuel (nI i) = some (false, sh) ∧ ∃ t, T = 0 :: t ∧ Dsc t) ∨ ∃ p x s1 y s2 sh', T = p ++ x :: (s1 ++ y :: s2) ∧ p ≠ [] ∧ Dsc (s1 ++ y :: s2) ∧ x < y ∧ (∀ z, z ∈ s2 → z < x) ∧ mX11_nextRow_L4 sh (nI T.length) fuel (nI i) = some (true, sh') ∧ shR sh' (p ++ y :: (s1 ++ x :: s2).reverse) := by
    intro i
    induction i with
    | zero =>
      intro fuel p s x e hp hne hd hf
      obtain ⟨m, rfl⟩ := fuel_s hf
      have hp0 : p = [] := List.length_eq_zero_iff.mp hp
      subst hp0
      left
      rw [mX11_nextRow_L4, if_pos (show nI 0 ≤ 0 from nI_le_t (b := 0) (Nat.le_refl _) (by omega)), mX11_nextRow_J31, if_neg (show ¬ (1 : Int32) ≤ nI 0 by decide)]
      refine ⟨rfl, s, ?_, hd⟩
      rw [ht0, List.nil_append, List.cons.injEq] at e
      rw [ht0, ← e.2]
    | succ i ih =>
      intro fuel p s x e hp hne hd hf
      obtain ⟨m, rfl⟩ := fuel_s hf
      have hTl : T.length = p.length + s.length + 1 := by rw [e]; simp only [List.length_append, List.length_cons]; omega
      cases s with
      | nil => exact absurd rfl hne
      | cons c s =>
        rw [List.length_cons] at hTl
        have hsx : shR sh (p ++ x :: (c :: s)) := by rw [← e]; exact hs
        have hsc : shR sh ((p ++ [x]) ++ c :: s) := by rw [List.append_assoc]; exact hsx
        have h1 := hsx.at (k := i + 1) hp.symm
        have h2 := hsc.at (k := i + 2) (by rw [List.length_append, List.length_singleton, hp])
        have hx8 : x < 8 := h8 x (by rw [e]; simp)
        have hc8 : c < 8 := h8 c (by rw [e]; simp)
        rw [mX11_nextRow_L4, if_neg (show ¬ nI (i + 1) ≤ 0 from nI_le_f (b := 0) (by omega) (by omega)), gd_n (by omega) (by omega), nI_1, gd_n (by omega) (by omega), i_cl (a := i + 1) (by omega), i_cl (a := i + 1 + 1) (by omega), h1, h2]
        by_cases hxc : x ≤ c
        · right
          have hnd := hn
          rw [e, List.nodup_append] at hnd
          have hxc2 : x < c := by
            rcases Nat.lt_or_ge x c with q | q
            · exact q
            · have : x = c := by omega
              subst this
              exact absurd List.mem_cons_self (List.nodup_cons.mp hnd.2.1).1
          obtain ⟨s1, y, s2, es, hy, hz⟩ := last_split (fun z => x ≤ z) (c :: s) ⟨c, List.mem_cons_self, hxc⟩
          have hxy : x < y := by
            rcases Nat.lt_or_ge x y with q | q
            · exact q
            · have : x = y := by omega
              subst this
              exact absurd (by rw [es]; simp) (List.nodup_cons.mp hnd.2.1).1
          rw [es] at e hd
          obtain ⟨sh', e', r'⟩ := change_n (p := p) (s1 := s1) (s2 := s2) (x := x) (y := y) (sh := sh) (by rw [← e]; exact hs) (by rw [← e]; exact h8) hy (fun z hz' => Nat.lt_of_not_le (hz z hz')) (by rw [← e]; exact hl8)
          rw [← e] at e'
          refine ⟨p, x, s1, y, s2, sh', e, (fun q => by rw [q] at hp; cases hp), hd, hxy, fun z hz' => Nat.lt_of_not_le (hz z hz'), ?_, r'⟩
          rw [if_pos (nI_le_t hxc (by omega)), mX11_nextRow_J31, if_pos (show (1 : Int32) ≤ nI (i + 1) from nI_le_t (a := 1) (by omega) (by omega)), i_pred (by omega), ← hp]
          exact e'
        · rw [if_neg (nI_le_f (by omega) (by omega)), i_m1 (by omega)]
          obtain ⟨p', w, rfl⟩ := last_ex p (fun q => by rw [q] at hp; cases hp)
          rw [List.length_append, List.length_singleton] at hp
          refine ih m p' (x :: c :: s) w (by rw [e, List.append_assoc]; rfl) (by omega) (by simp) ?_ (by omega)
          refine List.pairwise_cons.mpr ⟨fun z hz => ?_, hd⟩
          rcases List.mem_cons.mp hz with q | q
          · subst q; omega
          · have := (List.pairwise_cons.mp hd).1 z q; omega
  rw [mX11_nextRow]
  by_cases ht : t0 = []
  · subst ht
    left
    refine ⟨?_, [], ht0, List.Pairwise.nil⟩
    rw [ht0, show nI [0].length - 2 = -1 from by decide, mX11_nextRow_L4.eq_def]
    show (if (-1 : Int32) ≤ 0 then mX11_nextRow_J31 sh (nI [0].length) (-1) else _) = _
    rw [if_pos (by decide), mX11_nextRow_J31, if_neg (by decide)]
  · obtain ⟨t1, d, rfl⟩ := last_ex t0 ht
    obtain ⟨p, x, ep⟩ := last_ex (0 :: t1) (by simp)
    have eT : T = p ++ x :: [d] := by
      have : T = (0 :: t1) ++ [d] := ht0
      rw [this, ep, List.append_assoc]; rfl
    have hTl : T.length = p.length + 2 := by rw [eT]; simp
    have e2 : nI T.length - 2 = nI p.length := by
      rw [hTl]; exact (show nI (p.length + 2) - nI 2 = nI p.length from by rw [← nI_add]; exact Int32.add_sub_cancel _ _)
    rw [e2]
    exact key p.length kFU p [d] x eT rfl (by simp) (List.pairwise_singleton _ _) (kFU_b (by omega))
