/-! the reference's edges: fifty numbers a level -/
def mdR (now : Nat → Int32) (L : Nat) (E : List (Nat × Nat)) (nx : Nat) : Prop := L ≤ 1 ∧ now (50 * L) = nI E.length ∧ now (50 * L + 1) = nI nx ∧ E.length ≤ 24 ∧ ∀ i e, E[i]? = some e → now (50 * L + 2 + i) = nI e.2 ∧ now (50 * L + 26 + i) = nI e.1
theorem m50 (L : Nat) : (50 : Int32) * nI L = nI (50 * L) := pk_mul 50 L
theorem m50a (L c : Nat) : (50 : Int32) * nI L + nI c = nI (50 * L + c) := by rw [m50, nI_add]
theorem m10 (a b : Nat) : (10 : Int32) * nI a + nI b = nI (10 * a + b) := by rw [show (10 : Int32) * nI a = nI (10 * a) from pk_mul 10 a, nI_add]
section MD
variable {now : Nat → Int32} {L nx : Nat} {E : List (Nat × Nat)}
theorem mdR.same {now' : Nat → Int32} (h : mdR now L E nx) (hs : ∀ i, 50 * L ≤ i → i < 50 * L + 50 → now' i = now i) : mdR now' L E nx := by
  obtain ⟨h1, h2, h3, h4, h5⟩ := h
  refine ⟨h1, by rw [hs _ (by omega) (by omega)]; exact h2, by rw [hs _ (by omega) (by omega)]; exact h3, h4, fun i e he => ?_⟩
  have hl := (List.getElem?_eq_some_iff.mp he).1
  obtain ⟨a, b⟩ := h5 i e he
  exact ⟨by rw [hs _ (by omega) (by omega)]; exact a, by rw [hs _ (by omega) (by omega)]; exact b⟩
theorem md_many (h : mdR now L E nx) : mX11_many now (nI L) = some (nI E.length) := by
  have h1 := h.1
  rw [mX11_many, show (50 : Int32) * nI L + 0 = nI (50 * L + 0) from m50a L 0, gd_n (by omega) (by omega), i_cl (by omega), Nat.add_zero, h.2.1]
theorem md_from (h : mdR now L E nx) (hE : okE E) {i : Nat} {e : Nat × Nat} (he : E[i]? = some e) : mX11_fromOf now (nI L) (nI i) = some (nI (e.2 / 10)) := by
  have h1 := h.1; have h4 := h.2.2.2.1
  have hl := (List.getElem?_eq_some_iff.mp he).1
  have hm := hE.2.1 e (List.mem_of_getElem? he)
  rw [mX11_fromOf, show (50 : Int32) * nI L + 2 = nI (50 * L + 2) from m50a L 2, nI_add, gd_n (by omega) (by omega), i_cl (by omega), (h.2.2.2.2 i e he).1, div10 (by omega)]
theorem md_to (h : mdR now L E nx) (hE : okE E) {i : Nat} {e : Nat × Nat} (he : E[i]? = some e) : mX11_toOf now (nI L) (nI i) = some (nI (e.2 % 10)) := by
  have h1 := h.1; have h4 := h.2.2.2.1
  have hl := (List.getElem?_eq_some_iff.mp he).1
  have hm := hE.2.1 e (List.mem_of_getElem? he)
  rw [mX11_toOf, show (50 : Int32) * nI L + 2 = nI (50 * L + 2) from m50a L 2, nI_add, gd_n (by omega) (by omega), i_cl (by omega), (h.2.2.2.2 i e he).1, mod10 (by omega)]
theorem md_find (h : mdR now L E nx) (hE : okE E) {a b : Nat} (ha : a < 10) (hb : b < 10) : mX11_find now (nI L) (nI a) (nI b) = some (plcP (ePr E) (10 * a + b)) := by
  have h1 := h.1; have h4 := h.2.2.2.1
  have key : ∀ (l : List (Nat × Nat)) (k fuel : Nat) (at' : Int32), E.drop k = l → k ≤ E.length → l.length < fuel → (l.map Prod.snd).Nodup → mX11_find_L7 now (nI L) (nI a) (nI b) fuel at' (nI k) = some (if 10 * a + b ∈ l.map Prod.snd then nI (k + (l.map Prod.snd).idxOf (10 * a + b)) else at') := by
    intro l
    induction l with
    | nil =>
      intro k fuel at' hd hke hf _
      obtain ⟨m, rfl⟩ := fuel_s hf
      have hk := dropN hd
      rw [mX11_find_L7, md_many h, Option.bind_some, if_pos ((nI_leI (by omega) (by omega)).mpr hk), List.map_nil, if_neg List.not_mem_nil]
    | cons e l ih =>
      intro k fuel at' hd hke hf hnd
      obtain ⟨m, rfl⟩ := fuel_s hf
      obtain ⟨g1, g2, g3⟩ := dropC hd
      have hm := hE.2.1 e (List.mem_of_getElem? g2)
      rw [List.map_cons, List.nodup_cons] at hnd
      rw [mX11_find_L7, md_many h, Option.bind_some, if_neg (fun q => by have := (nI_leI (by omega) (by omega)).mp q; omega), show (50 : Int32) * nI L + 2 = nI (50 * L + 2) from m50a L 2, nI_add, gd_n (by omega) (by omega), i_cl (by omega), (h.2.2.2.2 k e g2).1, m10, List.map_cons, nI_1]
      by_cases hp : e.2 = 10 * a + b
      · rw [if_pos (by rw [hp]), ih (k + 1) m _ g3 (by omega) (by simp only [List.length_cons] at hf; omega) hnd.2, if_neg (by rw [← hp]; exact hnd.1), if_pos (by rw [hp]; exact List.mem_cons_self), hp, List.idxOf_cons_self]; rfl
      · rw [if_neg (fun q => hp ((nI_eq (by omega) (by omega)).mp q)), ih (k + 1) m _ g3 (by omega) (by simp only [List.length_cons] at hf; omega) hnd.2]
        have e1 : (10 * a + b ∈ e.2 :: l.map Prod.snd) ↔ 10 * a + b ∈ l.map Prod.snd := by
          rw [List.mem_cons]
          exact ⟨fun q => q.resolve_left (fun z => hp z.symm), Or.inr⟩
        by_cases hm2 : 10 * a + b ∈ l.map Prod.snd
        · rw [if_pos hm2, if_pos (e1.mpr hm2), idxOf_ne hp, show k + ((l.map Prod.snd).idxOf (10 * a + b) + 1) = k + 1 + (l.map Prod.snd).idxOf (10 * a + b) from by omega]
        · rw [if_neg hm2, if_neg (fun q => hm2 (e1.mp q))]
  have := key E 0 kFU (-9) rfl (Nat.zero_le _) (kFU_b (by omega)) hE.2.2
  rw [mX11_find, show (0 : Int32) = nI 0 from rfl, this, Nat.zero_add]; rfl
theorem md_insert (h : mdR now L E nx) (hl : E.length < 24) (a b : Nat) : ∃ now', mX11_insertOn now (nI L) (nI a) (nI b) = some now' ∧ mdR now' L (E ++ [(nx, 10 * a + b)]) (nx + 1) ∧ ∀ i, i < 50 * L ∨ 50 * L + 50 ≤ i → now' i = now i := by
  obtain ⟨h1, h2, h3, h4, h5⟩ := h
  have e0 : (50 : Int32) * nI L + 0 = nI (50 * L) := m50a L 0
  have e1 : (50 : Int32) * nI L + 1 = nI (50 * L + 1) := m50a L 1
  have e2 : (50 : Int32) * nI L + 2 = nI (50 * L + 2) := m50a L 2
  have e3 : (50 : Int32) * nI L + 26 = nI (50 * L + 26) := m50a L 26
  have c0 : (nI (50 * L)).toNatClampNeg = 50 * L := i_cl (by omega)
  have c1 : (nI (50 * L + 1)).toNatClampNeg = 50 * L + 1 := i_cl (by omega)
  have c2 : (nI (50 * L + 2 + E.length)).toNatClampNeg = 50 * L + 2 + E.length := i_cl (by omega)
  have c3 : (nI (50 * L + 26 + E.length)).toNatClampNeg = 50 * L + 26 + E.length := i_cl (by omega)
  unfold mX11_insertOn
  simp only [e0, e1, e2, e3, c0, c1, h2, nI_add, c2, m10]
  have u0 : upd now (50 * L + 2 + E.length) (nI (10 * a + b)) (50 * L) = nI E.length := by rw [upd_n (by omega), h2]
  have u1 : upd now (50 * L + 2 + E.length) (nI (10 * a + b)) (50 * L + 1) = nI nx := by rw [upd_n (by omega), h3]
  simp only [u0, u1, nI_add, c3]
  have u2 : upd (upd now (50 * L + 2 + E.length) (nI (10 * a + b))) (50 * L + 26 + E.length) (nI nx) (50 * L) = nI E.length := by rw [upd_n (by omega), u0]
  simp only [u2, nI_1]
  have u3 : upd (upd (upd now (50 * L + 2 + E.length) (nI (10 * a + b))) (50 * L + 26 + E.length) (nI nx)) (50 * L) (nI (E.length + 1)) (50 * L + 1) = nI nx := by rw [upd_n (by omega), upd_n (by omega), u1]
  simp only [u3, nI_1]
  have g0 : kin (nI (50 * L)) 100 = true := by rw [kin_n (by omega)]; exact decide_eq_true (by omega)
  have g1 : kin (nI (50 * L + 1)) 100 = true := by rw [kin_n (by omega)]; exact decide_eq_true (by omega)
  have g2 : kin (nI (50 * L + 2 + E.length)) 100 = true := by rw [kin_n (by omega)]; exact decide_eq_true (by omega)
  have g3 : kin (nI (50 * L + 26 + E.length)) 100 = true := by rw [kin_n (by omega)]; exact decide_eq_true (by omega)
  simp only [gd_t g0, gd_t g1, gd_t g2, gd_t g3]
  refine ⟨_, rfl, ⟨h1, ?_, ?_, ?_, ?_⟩, ?_⟩
  · rw [upd_n (by omega), upd_s, List.length_append]; rfl
  · rw [upd_s]
  · rw [List.length_append]; simp only [List.length_singleton]; omega
  · intro i e he
    by_cases hi : i < E.length
    · rw [List.getElem?_append_left hi] at he
      obtain ⟨a1, a2⟩ := h5 i e he
      refine ⟨?_, ?_⟩
      · rw [upd_n (by omega), upd_n (by omega), upd_n (by omega), upd_n (by omega), a1]
      · rw [upd_n (by omega), upd_n (by omega), upd_n (by omega), upd_n (by omega), a2]
    · rw [List.getElem?_append_right (by omega)] at he
      have hz : i - E.length < 1 := (List.getElem?_eq_some_iff.mp he).1
      obtain rfl : i = E.length := by omega
      rw [Nat.sub_self] at he
      cases he
      refine ⟨?_, ?_⟩
      · rw [upd_n (by omega), upd_n (by omega), upd_n (by omega), upd_s]
      · rw [upd_n (by omega), upd_n (by omega), upd_s]
  · intro i hi
    rw [upd_n (by omega), upd_n (by omega), upd_n (by omega), upd_n (by omega)]
theorem md_delete (h : mdR now L E nx) {k : Nat} (hk : k < E.length) : ∃ now', mX11_deleteOn now (nI L) (nI k) = some now' ∧ mdR now' L (E.eraseIdx k) nx ∧ ∀ i, i < 50 * L ∨ 50 * L + 50 ≤ i → now' i = now i := by
  obtain ⟨h1, h2, h3, h4, h5⟩ := h
  have e0 : (50 : Int32) * nI L + 0 = nI (50 * L) := m50a L 0
  have e2 : (50 : Int32) * nI L + 2 = nI (50 * L + 2) := m50a L 2
  have e3 : (50 : Int32) * nI L + 26 = nI (50 * L + 26) := m50a L 26
  have c0 : (nI (50 * L)).toNatClampNeg = 50 * L := i_cl (by omega)
  have g0 : kin (nI (50 * L)) 100 = true := by rw [kin_n (by omega)]; exact decide_eq_true (by omega)
  have key : ∀ (j i fuel : Nat) (w : Nat → Int32), i + j = E.length - 1 → j < fuel → w (50 * L) = nI (E.length - 1) → ∃ w', mX11_deleteOn_L20 (nI L) fuel (nI i) w = some w' ∧ (∀ t, t < 50 * L ∨ 50 * L + 50 ≤ t ∨ t = 50 * L ∨ t = 50 * L + 1 → w' t = w t) ∧ (∀ t, t < i → w' (50 * L + 2 + t) = w (50 * L + 2 + t) ∧ w' (50 * L + 26 + t) = w (50 * L + 26 + t)) ∧ (∀ t, i ≤ t → t < E.length - 1 → w' (50 * L + 2 + t) = w (50 * L + 2 + (t + 1)) ∧ w' (50 * L + 26 + t) = w (50 * L + 26 + (t + 1))) := by
    intro j
    induction j with
    | zero =>
      intro i fuel w hi hf hw
      obtain ⟨m, rfl⟩ := fuel_s hf
      refine ⟨w, ?_, fun _ _ => rfl, fun _ _ => ⟨rfl, rfl⟩, fun t q1 q2 => by omega⟩
      rw [mX11_deleteOn_L20, e0, gd_t g0, c0, hw, if_pos ((nI_leI (by omega) (by omega)).mpr (by omega))]
    | succ j ih =>
      intro i fuel w hi hf hw
      obtain ⟨m, rfl⟩ := fuel_s hf
      have d1 : (nI (50 * L + 2 + i)).toNatClampNeg = 50 * L + 2 + i := i_cl (by omega)
      have d2 : (nI (50 * L + 2 + i + 1)).toNatClampNeg = 50 * L + 2 + i + 1 := i_cl (by omega)
      have d3 : (nI (50 * L + 26 + i)).toNatClampNeg = 50 * L + 26 + i := i_cl (by omega)
      have d4 : (nI (50 * L + 26 + i + 1)).toNatClampNeg = 50 * L + 26 + i + 1 := i_cl (by omega)
      have q1 : kin (nI (50 * L + 2 + i)) 100 = true := by rw [kin_n (by omega)]; exact decide_eq_true (by omega)
      have q2 : kin (nI (50 * L + 2 + i + 1)) 100 = true := by rw [kin_n (by omega)]; exact decide_eq_true (by omega)
      have q3 : kin (nI (50 * L + 26 + i)) 100 = true := by rw [kin_n (by omega)]; exact decide_eq_true (by omega)
      have q4 : kin (nI (50 * L + 26 + i + 1)) 100 = true := by rw [kin_n (by omega)]; exact decide_eq_true (by omega)
      have u : upd w (50 * L + 2 + i) (w (50 * L + 2 + i + 1)) (50 * L + 26 + i + 1) = w (50 * L + 26 + i + 1) := upd_n (by omega)
      obtain ⟨w', b1, b2, b3, b4⟩ := ih (i + 1) m (upd (upd w (50 * L + 2 + i) (w (50 * L + 2 + i + 1))) (50 * L + 26 + i) (w (50 * L + 26 + i + 1))) (by omega) (by omega) (by rw [upd_n (by omega), upd_n (by omega), hw])
      refine ⟨w', ?_, fun t ht => ?_, fun t ht => ?_, fun t ht1 ht2 => ?_⟩
      · rw [mX11_deleteOn_L20, e0, gd_t g0, c0, hw, if_neg (fun q => by have := (nI_leI (by omega) (by omega)).mp q; omega)]
        simp only [e2, e3, nI_add, nI_1, d1, d2, d3, d4, gd_t q1, gd_t q2, gd_t q3, gd_t q4, u]
        exact b1
      · rw [b2 t ht, upd_n (by omega), upd_n (by omega)]
      · obtain ⟨z1, z2⟩ := b3 t (by omega)
        exact ⟨by rw [z1, upd_n (by omega), upd_n (by omega)], by rw [z2, upd_n (by omega), upd_n (by omega)]⟩
      · by_cases hti : t = i
        · subst hti
          obtain ⟨z1, z2⟩ := b3 t (by omega)
          exact ⟨by rw [z1, upd_n (by omega), upd_s]; rfl, by rw [z2, upd_s]; rfl⟩
        · obtain ⟨z1, z2⟩ := b4 t (by omega) ht2
          exact ⟨by rw [z1, upd_n (by omega), upd_n (by omega)], by rw [z2, upd_n (by omega), upd_n (by omega)]⟩
  obtain ⟨w', b1, b2, b3, b4⟩ := key (E.length - 1 - k) k kFU (upd now (50 * L) (nI (E.length - 1))) (by omega) (kFU_b (by omega)) upd_s
  refine ⟨w', ?_, ⟨h1, ?_, ?_, ?_, ?_⟩, fun i hi => ?_⟩
  · rw [mX11_deleteOn, e0, gd_t g0, gd_t g0, c0, h2, i_pred (by omega)]
    exact b1
  · rw [b2 _ (by omega), upd_s, List.length_eraseIdx_of_lt hk]
  · rw [b2 _ (by omega), upd_n (by omega), h3]
  · rw [List.length_eraseIdx_of_lt hk]; omega
  · intro i e he
    rw [List.getElem?_eraseIdx] at he
    by_cases hik : i < k
    · rw [if_pos hik] at he
      obtain ⟨a1, a2⟩ := h5 i e he
      obtain ⟨z1, z2⟩ := b3 i hik
      exact ⟨by rw [z1, upd_n (by omega), a1], by rw [z2, upd_n (by omega), a2]⟩
    · rw [if_neg hik] at he
      have hlen := (List.getElem?_eq_some_iff.mp he).1
      obtain ⟨a1, a2⟩ := h5 (i + 1) e he
      obtain ⟨z1, z2⟩ := b4 i (by omega) (by omega)
      exact ⟨by rw [z1, upd_n (by omega), a1], by rw [z2, upd_n (by omega), a2]⟩
  · rw [b2 i (by omega), upd_n (by omega)]
theorem md_lay (h : mdR now 0 E nx) : ∃ now', mX11_layTrial now = some now' ∧ mdR now' 1 E nx ∧ ∀ i, i < 50 → now' i = now i := by
  have key : ∀ (j i fuel : Nat) (w : Nat → Int32), i + j = 50 → j < fuel → ∃ w', mX11_layTrial_L2 fuel (nI i) w = some w' ∧ (∀ t, t < 50 + i → w' t = w t) ∧ ∀ t, i ≤ t → t < 50 → w' (50 + t) = w t := by
    intro j
    induction j with
    | zero =>
      intro i fuel w hi hf
      obtain ⟨m, rfl⟩ := fuel_s hf
      exact ⟨w, by rw [mX11_layTrial_L2, if_pos (show (50 : Int32) ≤ nI i from (nI_leI (a := 50) (by omega) (by omega)).mpr (by omega))], fun _ _ => rfl, fun t q1 q2 => by omega⟩
    | succ j ih =>
      intro i fuel w hi hf
      obtain ⟨m, rfl⟩ := fuel_s hf
      obtain ⟨w', b1, b2, b3⟩ := ih (i + 1) m (upd w (50 + i) (w i)) (by omega) (by omega)
      refine ⟨w', ?_, fun t ht => ?_, fun t ht1 ht2 => ?_⟩
      · rw [mX11_layTrial_L2, if_neg (show ¬ (50 : Int32) ≤ nI i from fun q => by have := (nI_leI (a := 50) (by omega) (by omega)).mp q; omega), show (50 : Int32) + nI i = nI (50 + i) from nI_add 50 i, gd_n (by omega) (by omega), gd_n (by omega) (by omega), i_cl (by omega), i_cl (by omega), nI_1]
        exact b1
      · rw [b2 t (by omega), upd_n (by omega)]
      · by_cases hti : t = i
        · subst hti; rw [b2 _ (by omega), upd_s]
        · rw [b3 t (by omega) ht2, upd_n (by omega)]
  obtain ⟨w', b1, b2, b3⟩ := key 50 0 kFU now rfl (kFU_b (by omega))
  obtain ⟨h1, h2, h3, h4, h5⟩ := h
  refine ⟨w', by rw [mX11_layTrial]; exact b1, ⟨Nat.le_refl _, ?_, ?_, h4, fun i e he => ?_⟩, fun i hi => b2 i (by omega)⟩
  · rw [show 50 * 1 = 50 + 0 from rfl, b3 0 (by omega) (by omega)]; exact h2
  · rw [show 50 * 1 + 1 = 50 + 1 from rfl, b3 1 (by omega) (by omega)]; exact h3
  · have hl := (List.getElem?_eq_some_iff.mp he).1
    obtain ⟨a1, a2⟩ := h5 i e he
    rw [show 50 * 1 + 2 + i = 50 + (2 + i) from by omega, show 50 * 1 + 26 + i = 50 + (26 + i) from by omega, b3 _ (by omega) (by omega), b3 _ (by omega) (by omega)]
    rw [show 50 * 0 + 2 + i = 2 + i from by omega] at a1
    rw [show 50 * 0 + 26 + i = 26 + i from by omega] at a2
    exact ⟨a1, a2⟩
end MD
