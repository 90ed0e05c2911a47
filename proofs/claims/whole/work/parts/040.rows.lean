/-! rows as lists: what the mirrors of CoverOrder.Row do -/
theorem at_n {n : Nat} {sz : Int32} {f : Nat → Int32} {xs : List Int32} (h : rowR n sz f xs) {k : Nat} (hk : k < 2 ^ 31) : mX6_at n sz f (nI k) = xs.getD k (-9) := by
  obtain ⟨rfl, h1, h2, h3⟩ := h
  unfold mX6_at
  rw [if_neg (nI_pos hk)]
  by_cases hl : k < xs.length
  · rw [if_neg (fun h => by have := (nI_leI (by omega) hk).mp h; omega), if_neg (fun h => by have := (nI_leI (a := n) (by omega) hk).mp h; omega), i_cl hk]
    have := List.getElem?_eq_getElem hl
    rw [h3 k _ this, List.getD_eq_getElem?_getD, this]; rfl
  · rw [if_pos ((nI_leI (by omega) hk).mpr (by omega)), List.getD_eq_getElem?_getD, List.getElem?_eq_none (by omega)]; rfl
theorem at_neg {n : Nat} {sz : Int32} {f : Nat → Int32} {x : Int32} (h : x < 0) : mX6_at n sz f x = -9 := by
  unfold mX6_at
  rw [if_pos h]
theorem size_n {n : Nat} {sz : Int32} {f : Nat → Int32} {xs : List Int32} (h : rowR n sz f xs) : sz = nI xs.length := h.1
theorem isFull_n {n : Nat} {sz : Int32} {f : Nat → Int32} {xs : List Int32} (h : rowR n sz f xs) : mX6_isFull n sz = decide (n ≤ xs.length) := by
  obtain ⟨rfl, h1, h2, h3⟩ := h
  unfold mX6_isFull
  show (if nI xs.length < nI n then false else true) = _
  by_cases hl : xs.length < n
  · rw [if_pos ((nI_ltI (b := n) (by omega) (by omega)).mpr hl), decide_eq_false (by omega)]
  · rw [if_neg (fun h => hl ((nI_ltI (b := n) (by omega) (by omega)).mp h)), decide_eq_true (by omega)]
theorem placeOf_n {n : Nat} {sz : Int32} {f : Nat → Int32} {xs : List Int32} (h : rowR n sz f xs) (x : Int32) : mX6_placeOf n sz f x = some (plc xs x) := by
  have key : ∀ (j k fuel : Nat), k + j = xs.length → j < fuel → mX6_placeOf_L2 sz f n x fuel (nI k) = some (if x ∈ xs.drop k then nI (k + (xs.drop k).idxOf x) else -9) := by
    intro j
    induction j with
    | zero =>
      intro k fuel hk hf
      obtain ⟨m, rfl⟩ : ∃ m, fuel = m + 1 := ⟨fuel - 1, by omega⟩
      have h2 := h.2.1; have h3 := h.2.2.1
      rw [mX6_placeOf_L2, if_pos (by rw [h.1]; exact (nI_leI (by omega) (by omega)).mpr (by omega))]
      rw [List.drop_eq_nil_of_le (by omega), if_neg (List.not_mem_nil)]
    | succ j ih =>
      intro k fuel hk hf
      obtain ⟨m, rfl⟩ : ∃ m, fuel = m + 1 := ⟨fuel - 1, by omega⟩
      have h2 := h.2.1; have h3 := h.2.2.1
      have hl : k < xs.length := by omega
      rw [mX6_placeOf_L2, if_neg (by rw [h.1]; exact fun q => by have := (nI_leI (by omega) (by omega)).mp q; omega), at_n h (by omega), List.drop_eq_getElem_cons hl, List.getD_eq_getElem?_getD, List.getElem?_eq_getElem hl, Option.getD_some]
      by_cases he : xs[k] = x
      · rw [if_pos he, if_pos (by rw [he]; exact List.mem_cons_self), he, List.idxOf_cons_self]
        rfl
      · rw [if_neg he, nI_1, ih (k + 1) m (by omega) (by omega)]
        have e1 : (x ∈ xs[k] :: xs.drop (k + 1)) ↔ x ∈ xs.drop (k + 1) := by
          rw [List.mem_cons]
          exact ⟨fun q => q.resolve_left (fun z => he z.symm), Or.inr⟩
        by_cases hm : x ∈ xs.drop (k + 1)
        · rw [if_pos hm, if_pos (e1.mpr hm), idxOf_ne he, show k + ((xs.drop (k + 1)).idxOf x + 1) = k + 1 + (xs.drop (k + 1)).idxOf x from by omega]
        · rw [if_neg hm, if_neg (fun q => hm (e1.mp q))]
  have h2 := h.2.1; have h3 := h.2.2.1
  rw [mX6_placeOf, show (0 : Int32) = nI 0 from rfl, key xs.length 0 kFU (by omega) (by show _ < 100000000; omega), List.drop_zero, Nat.zero_add]
  rfl
theorem putIn_n {n : Nat} {sz : Int32} {f : Nat → Int32} {xs : List Int32} (h : rowR n sz f xs) {k : Nat} (hk : k ≤ xs.length) (hl : xs.length < n) (x : Int32) : ∃ f', mX6_putIn n sz f (nI k) x = some (nI (xs.length + 1), f') ∧ rowR n (nI (xs.length + 1)) f' (xs.insertIdx k x) := by
  obtain ⟨hs, h1, h2, h3⟩ := h
  have key : ∀ (j i fuel : Nat) (w : Nat → Int32), i = k + j → i ≤ xs.length → j < fuel → ∃ w', mX6_putIn_L25 sz n (nI k) x fuel (nI i) w = mX6_putIn_J50 sz n (nI k) x w' ∧ (∀ t, t ≤ k → w' t = w t) ∧ (∀ t, i < t → w' t = w t) ∧ (∀ t, k < t → t ≤ i → w' t = w (t - 1)) := by
    intro j
    induction j with
    | zero =>
      intro i fuel w hi hx hf
      obtain ⟨m, rfl⟩ : ∃ m, fuel = m + 1 := ⟨fuel - 1, by omega⟩
      refine ⟨w, ?_, fun _ _ => rfl, fun _ _ => rfl, fun t a b => by omega⟩
      rw [mX6_putIn_L25, if_pos ((nI_leI (by omega) (by omega)).mpr (by omega))]
    | succ j ih =>
      intro i fuel w hi hx hf
      obtain ⟨m, rfl⟩ : ∃ m, fuel = m + 1 := ⟨fuel - 1, by omega⟩
      obtain ⟨w', e, a1, a2, a3⟩ := ih (i - 1) m (upd w i (w (i - 1))) (by omega) (by omega) (by omega)
      refine ⟨w', ?_, fun t ht => ?_, fun t ht => ?_, fun t ht1 ht2 => ?_⟩
      · rw [mX6_putIn_L25, if_neg (fun q => by have := (nI_leI (by omega) (by omega)).mp q; omega), i_pred (by omega), gd_n (by omega) (by omega), gd_n (by omega) (by omega), i_m1 (by omega), i_cl (by omega), i_cl (by omega)]
        exact e
      · rw [a1 t ht, upd_n (by omega)]
      · rw [a2 t (by omega), upd_n (by omega)]
      · by_cases hti : t = i
        · subst hti
          rw [a2 t (by omega), upd_s]
        · rw [a3 t ht1 (by omega), upd_n (by omega)]
  obtain ⟨w', e, a1, a2, a3⟩ := key (xs.length - k) xs.length kFU f (by omega) (Nat.le_refl _) (by show _ < 100000000; omega)
  refine ⟨upd w' k x, ?_, ?_, ?_, h2, ?_⟩
  · rw [mX6_putIn, if_neg (nI_pos (by omega)), hs, if_neg (fun q => by have := (nI_ltI (by omega) (by omega)).mp q; omega), isFull_n ⟨rfl, h1, h2, h3⟩, if_neg (by rw [decide_eq_true_eq]; omega)]
    rw [hs] at e
    rw [e, mX6_putIn_J50, gd_n (by omega) (by omega), nI_1, i_cl (by omega)]
  · rw [List.length_insertIdx_of_le_length hk]
  · rw [List.length_insertIdx_of_le_length hk]; omega
  · intro i y hy
    rw [List.getElem?_insertIdx] at hy
    by_cases hik : i < k
    · rw [if_pos hik] at hy
      rw [upd_n (by omega), a1 i (by omega)]
      exact h3 i y hy
    · rw [if_neg hik] at hy
      by_cases hie : i = k
      · subst hie
        rw [if_pos rfl] at hy
        rw [upd_s]
        simp only [hk, if_true, Option.some.injEq] at hy
        exact hy
      · rw [if_neg hie] at hy
        have hlen := (List.getElem?_eq_some_iff.mp hy).1
        rw [upd_n hie, a3 i (by omega) (by omega)]
        exact h3 (i - 1) y hy
theorem putIn_no {n : Nat} {sz : Int32} {f : Nat → Int32} {xs : List Int32} (h : rowR n sz f xs) (hl : n ≤ xs.length) (p x : Int32) : mX6_putIn n sz f p x = some (sz, f) := by
  unfold mX6_putIn
  rw [isFull_n h, decide_eq_true hl, if_pos rfl]
  split
  · rfl
  · split <;> rfl
theorem add_n {n : Nat} {sz : Int32} {f : Nat → Int32} {xs : List Int32} (h : rowR n sz f xs) (hl : xs.length < n) (x : Int32) : ∃ f', mX6_add n sz f x = some (nI (xs.length + 1), f') ∧ rowR n (nI (xs.length + 1)) f' (xs ++ [x]) := by
  obtain ⟨f', e, r⟩ := putIn_n h (Nat.le_refl _) hl x
  refine ⟨f', ?_, ?_⟩
  · rw [mX6_add, h.1]
    rw [h.1] at e
    rw [e]; rfl
  · rw [List.insertIdx_length_self] at r; exact r
theorem add_no {n : Nat} {sz : Int32} {f : Nat → Int32} {xs : List Int32} (h : rowR n sz f xs) (hl : n ≤ xs.length) (x : Int32) : mX6_add n sz f x = some (sz, f) := by
  rw [mX6_add, putIn_no h hl]; rfl
theorem takeOut_n {n : Nat} {sz : Int32} {f : Nat → Int32} {xs : List Int32} (h : rowR n sz f xs) {k : Nat} (hk : k < xs.length) : ∃ f', mX6_takeOut n sz f (nI k) = some (xs.getD k (-9), nI (xs.length - 1), f') ∧ rowR n (nI (xs.length - 1)) f' (xs.eraseIdx k) := by
  obtain ⟨hs, h1, h2, h3⟩ := h
  have key : ∀ (j i fuel : Nat) (w : Nat → Int32), i + j = xs.length - 1 → k ≤ i → j < fuel → ∃ w', mX6_takeOut_L46 sz f n (nI k) fuel (nI i) w = some (f k, sz - 1, w') ∧ (∀ t, t < i → w' t = w t) ∧ (∀ t, i ≤ t → t < xs.length - 1 → w' t = w (t + 1)) := by
    intro j
    induction j with
    | zero =>
      intro i fuel w hi hx hf
      obtain ⟨m, rfl⟩ : ∃ m, fuel = m + 1 := ⟨fuel - 1, by omega⟩
      refine ⟨w, ?_, fun _ _ => rfl, fun t a b => by omega⟩
      rw [mX6_takeOut_L46, hs, i_pred (by omega), if_pos ((nI_leI (by omega) (by omega)).mpr (by omega)), i_cl (by omega)]
    | succ j ih =>
      intro i fuel w hi hx hf
      obtain ⟨m, rfl⟩ : ∃ m, fuel = m + 1 := ⟨fuel - 1, by omega⟩
      obtain ⟨w', e, a1, a2⟩ := ih (i + 1) m (upd w i (w (i + 1))) (by omega) (by omega) (by omega)
      refine ⟨w', ?_, fun t ht => ?_, fun t ht1 ht2 => ?_⟩
      · rw [mX6_takeOut_L46, if_neg (fun q => by rw [hs, i_pred (by omega)] at q; have := (nI_leI (by omega) (by omega)).mp q; omega), nI_1, gd_n (by omega) (by omega), gd_n (by omega) (by omega), i_cl (by omega), i_cl (by omega)]
        exact e
      · rw [a1 t (by omega), upd_n (by omega)]
      · by_cases hti : t = i
        · subst hti
          rw [a1 t (by omega), upd_s]
        · rw [a2 t (by omega) ht2, upd_n (by omega)]
  obtain ⟨w', e, a1, a2⟩ := key (xs.length - 1 - k) k kFU f (by omega) (Nat.le_refl _) (by show _ < 100000000; omega)
  have hg := List.getElem?_eq_getElem hk
  refine ⟨w', ?_, ?_, ?_, h2, ?_⟩
  · rw [mX6_takeOut, if_neg (nI_pos (by omega)), if_neg (fun q => by rw [hs] at q; have := (nI_leI (by omega) (by omega)).mp q; omega), if_pos (by rw [hs]; exact (nI_leI (b := n) (by omega) (by omega)).mpr h1), gd_n (by omega) (by omega), e, hs, i_pred (by omega), h3 k _ hg, List.getD_eq_getElem?_getD, hg]
    rfl
  · rw [List.length_eraseIdx_of_lt hk]
  · rw [List.length_eraseIdx_of_lt hk]; omega
  · intro i y hy
    rw [List.getElem?_eraseIdx] at hy
    by_cases hik : i < k
    · rw [if_pos hik] at hy
      rw [a1 i hik]
      exact h3 i y hy
    · rw [if_neg hik] at hy
      have hlen := (List.getElem?_eq_some_iff.mp hy).1
      rw [a2 i (by omega) (by omega)]
      exact h3 (i + 1) y hy
theorem takeLast_n {n : Nat} {sz : Int32} {f : Nat → Int32} {xs : List Int32} {x : Int32} (h : rowR n sz f (xs ++ [x])) : ∃ f', mX6_takeLast n sz f = some (x, nI xs.length, f') ∧ rowR n (nI xs.length) f' xs := by
  have hlen : (xs ++ [x]).length = xs.length + 1 := by simp
  have hk : xs.length < (xs ++ [x]).length := by omega
  obtain ⟨f', e, r⟩ := takeOut_n h hk
  refine ⟨f', ?_, ?_⟩
  · rw [mX6_takeLast, show sz - 1 = nI xs.length from by rw [h.1, hlen, nI_pred], e]
    simp
  · rw [hlen, Nat.add_sub_cancel] at r
    rw [List.eraseIdx_append_of_length_le (Nat.le_refl _), Nat.sub_self] at r
    simpa using r
theorem copy_n {n n2 : Nat} {sz sz2 : Int32} {f f2 : Nat → Int32} {ys : List Int32} (h : n ≤ 1000) (h2 : rowR n2 sz2 f2 ys) (hl : ys.length ≤ n) : ∃ f', mX6_copy n n2 sz f sz2 f2 = some (nI ys.length, f') ∧ rowR n (nI ys.length) f' ys := by
  have b1 := h2.2.1; have b2 := h2.2.2.1
  have key : ∀ (j k fuel : Nat) (w : Nat → Int32), k + j = ys.length → j < fuel → rowR n (nI k) w (ys.take k) → ∃ w', mX6_copy_L6 sz2 f2 n n2 fuel (nI k) (nI k) w = some (nI ys.length, w') ∧ rowR n (nI ys.length) w' ys := by
    intro j
    induction j with
    | zero =>
      intro k fuel w hk hf hr
      obtain ⟨m, rfl⟩ : ∃ m, fuel = m + 1 := ⟨fuel - 1, by omega⟩
      obtain rfl : k = ys.length := by omega
      refine ⟨w, ?_, by rw [List.take_length] at hr; exact hr⟩
      rw [mX6_copy_L6, if_pos (by rw [h2.1]; exact (nI_leI (by omega) (by omega)).mpr (Nat.le_refl _))]
    | succ j ih =>
      intro k fuel w hk hf hr
      obtain ⟨m, rfl⟩ : ∃ m, fuel = m + 1 := ⟨fuel - 1, by omega⟩
      have hkl : k < ys.length := by omega
      have hlt : (ys.take k).length = k := by rw [List.length_take]; omega
      obtain ⟨w1, e1, r1⟩ := add_n hr (by omega) (ys.getD k (-9))
      rw [hlt] at e1 r1
      have et : ys.take k ++ [ys.getD k (-9)] = ys.take (k + 1) := by
        rw [List.getD_eq_getElem?_getD, List.getElem?_eq_getElem hkl, List.take_add_one, List.getElem?_eq_getElem hkl]; rfl
      rw [et] at r1
      obtain ⟨w', e, r⟩ := ih (k + 1) m w1 (by omega) (by omega) r1
      refine ⟨w', ?_, r⟩
      rw [mX6_copy_L6, if_neg (fun q => by rw [h2.1] at q; have := (nI_leI (by omega) (by omega)).mp q; omega), at_n h2 (by omega), e1, Option.bind_some, nI_1]
      exact e
  obtain ⟨w', e, r⟩ := key ys.length 0 kFU f (by omega) (by show _ < 100000000; omega) (by rw [List.take_zero]; exact rowR.nil h)
  exact ⟨w', by rw [mX6_copy, mX6_clear]; exact e, r⟩
