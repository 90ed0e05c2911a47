/-! blocks of fifty numbers; graph; acts -/
def mdB (f : Nat → Int32) (b : Nat) (E : List (Nat × Nat)) (nx : Nat) : Prop := f (50 * b) = nI E.length ∧ f (50 * b + 1) = nI nx ∧ E.length ≤ 24 ∧ ∀ i e, E[i]? = some e → f (50 * b + 2 + i) = nI e.2 ∧ f (50 * b + 26 + i) = nI e.1
theorem mdR.toB {f : Nat → Int32} {L : Nat} {E : List (Nat × Nat)} {nx : Nat} (h : mdR f L E nx) : mdB f L E nx := h.2
theorem mdB.toR {f : Nat → Int32} {E : List (Nat × Nat)} {nx : Nat} (h : mdB f 0 E nx) : mdR f 0 E nx := ⟨Nat.zero_le _, h⟩
theorem mdB.copy {f g : Nat → Int32} {b c : Nat} {E : List (Nat × Nat)} {nx : Nat} (h : mdB f b E nx) (hc : ∀ i, i < 50 → g (50 * c + i) = f (50 * b + i)) : mdB g c E nx := by
  obtain ⟨h2, h3, h4, h5⟩ := h
  refine ⟨?_, ?_, h4, fun i e he => ?_⟩
  · have := hc 0 (by omega)
    rw [Nat.add_zero, Nat.add_zero] at this
    rw [this]; exact h2
  · rw [hc 1 (by omega)]; exact h3
  · have hl := (List.getElem?_eq_some_iff.mp he).1
    obtain ⟨a1, a2⟩ := h5 i e he
    have q1 := hc (2 + i) (by omega)
    have q2 := hc (26 + i) (by omega)
    rw [← Nat.add_assoc, ← Nat.add_assoc] at q1 q2
    exact ⟨q1.trans a1, q2.trans a2⟩
theorem le50_t {k : Nat} (h : 50 ≤ k) (hk : k < 2 ^ 31) : (50 : Int32) ≤ nI k := (nI_leI (a := 50) (by omega) hk).mpr h
theorem le50_f {k : Nat} (h : k < 50) : ¬ (50 : Int32) ≤ nI k := fun q => by have := (nI_leI (a := 50) (by omega) (by omega)).mp q; omega
section BL
variable {E : List (Nat × Nat)} {nx : Nat}
theorem graph_l (ik : Nat → Int32) (r1 : Int32 × Int32 × (Nat → Int32)) : ∀ (j i fuel : Nat) (w : Nat → Int32), i + j = 50 → j < fuel → ∃ w', mX11_graph_L22 ik r1 fuel (nI i) w = mX11_graph_J49 ik r1 w' ∧ (∀ t, t < i → w' t = w t) ∧ ∀ t, i ≤ t → t < 50 → w' t = w (50 + t) := by
  intro j
  induction j with
  | zero =>
    intro i fuel w hi hf
    obtain ⟨m, rfl⟩ := fuel_s hf
    exact ⟨w, by rw [mX11_graph_L22, if_pos (le50_t (by omega) (by omega))], fun _ _ => rfl, fun t q1 q2 => by omega⟩
  | succ j ih =>
    intro i fuel w hi hf
    obtain ⟨m, rfl⟩ := fuel_s hf
    obtain ⟨w', b1, b2, b3⟩ := ih (i + 1) m (upd w i (w (50 + i))) (by omega) (by omega)
    refine ⟨w', ?_, fun t ht => ?_, fun t ht1 ht2 => ?_⟩
    · rw [mX11_graph_L22, if_neg (le50_f (by omega)), show (50 : Int32) + nI i = nI (50 + i) from nI_add 50 i, gd_n (by omega) (by omega), gd_n (by omega) (by omega), i_cl (by omega), i_cl (by omega), nI_1]
      exact b1
    · rw [b2 t (by omega), upd_n (by omega)]
    · by_cases hti : t = i
      · subst hti; rw [b2 _ (by omega), upd_s]
      · rw [b3 t (by omega) ht2, upd_n (by omega)]
theorem keepAct_n {ac : Int32} {nt : Nat} (hnt : nt < 14) (now row : Nat → Int32) : ∃ row', mX11_keepAct ac (nI nt) now row = mX11_keepAct_J34 ac (nI nt) row' ∧ (∀ i, i < 50 → row' (50 * nt + i) = now i) ∧ ∀ t, (t < 50 * nt ∨ 50 * nt + 50 ≤ t) → row' t = row t := by
  have key : ∀ (j i fuel : Nat) (w : Nat → Int32), i + j = 50 → j < fuel → ∃ w', mX11_keepAct_L2 ac (nI nt) now fuel (nI i) w = mX11_keepAct_J34 ac (nI nt) w' ∧ (∀ t, (t < 50 * nt + i ∨ 50 * nt + 50 ≤ t) → w' t = w t) ∧ ∀ t, i ≤ t → t < 50 → w' (50 * nt + t) = now t := by
    intro j
    induction j with
    | zero =>
      intro i fuel w hi hf
      obtain ⟨m, rfl⟩ := fuel_s hf
      exact ⟨w, by rw [mX11_keepAct_L2, if_pos (le50_t (by omega) (by omega))], fun _ _ => rfl, fun t q1 q2 => by omega⟩
    | succ j ih =>
      intro i fuel w hi hf
      obtain ⟨m, rfl⟩ := fuel_s hf
      obtain ⟨w', b1, b2, b3⟩ := ih (i + 1) m (upd w (50 * nt + i) (now i)) (by omega) (by omega)
      refine ⟨w', ?_, fun t ht => ?_, fun t ht1 ht2 => ?_⟩
      · rw [mX11_keepAct_L2, if_neg (le50_f (by omega)), m50a, gd_n (by omega) (by omega), gd_n (by omega) (by omega), i_cl (by omega), i_cl (by omega), nI_1]
        exact b1
      · rw [b2 t (by omega), upd_n (by omega)]
      · by_cases hti : t = i
        · subst hti; rw [b2 _ (by omega), upd_s]
        · exact b3 t (by omega) ht2
  obtain ⟨w', b1, b2, b3⟩ := key 50 0 kFU row rfl (kFU_b (by omega))
  exact ⟨w', b1, fun i hi => b3 i (Nat.zero_le _) hi, fun t ht => b2 t (by omega)⟩
theorem undo_l {ac : Int32} {nt : Nat} (hnt : nt < 14) (row now : Nat → Int32) : ∃ now', mX11_undo_L36 ac (nI nt) row kFU 0 now = some (ac - 1, ac - 1, nI ((nt + 13) % 14), now') ∧ (∀ i, i < 50 → now' i = row (50 * ((nt + 13) % 14) + i)) := by
  have e13 : nI nt + 13 = nI (nt + 13) := nI_add nt 13
  have e14 : nI (nt + 13) - nI (nt + 13) / 14 * 14 = nI ((nt + 13) % 14) := pk_rem (d := 14) (by omega) (by omega) (by omega)
  have hb : (nt + 13) % 14 < 14 := Nat.mod_lt _ (by decide)
  have key : ∀ (j i fuel : Nat) (w : Nat → Int32), i + j = 50 → j < fuel → ∃ w', mX11_undo_L36 ac (nI nt) row fuel (nI i) w = some (ac - 1, ac - 1, nI ((nt + 13) % 14), w') ∧ (∀ t, t < i → w' t = w t) ∧ ∀ t, i ≤ t → t < 50 → w' t = row (50 * ((nt + 13) % 14) + t) := by
    intro j
    induction j with
    | zero =>
      intro i fuel w hi hf
      obtain ⟨m, rfl⟩ := fuel_s hf
      exact ⟨w, by rw [mX11_undo_L36, if_pos (le50_t (by omega) (by omega)), e13, e14], fun _ _ => rfl, fun t q1 q2 => by omega⟩
    | succ j ih =>
      intro i fuel w hi hf
      obtain ⟨m, rfl⟩ := fuel_s hf
      obtain ⟨w', b1, b2, b3⟩ := ih (i + 1) m (upd w i (row (50 * ((nt + 13) % 14) + i))) (by omega) (by omega)
      refine ⟨w', ?_, fun t ht => ?_, fun t ht1 ht2 => ?_⟩
      · rw [mX11_undo_L36, if_neg (le50_f (by omega)), e13, e14, m50a, gd_n (by omega) (by omega), gd_n (by omega) (by omega), i_cl (by omega), i_cl (by omega), nI_1]
        exact b1
      · rw [b2 t (by omega), upd_n (by omega)]
      · by_cases hti : t = i
        · subst hti; rw [b2 _ (by omega), upd_s]
        · exact b3 t (by omega) ht2
  obtain ⟨w', b1, -, b3⟩ := key 50 0 kFU now rfl (kFU_b (by omega))
  exact ⟨w', b1, fun i hi => b3 i (Nat.zero_le _) hi⟩
theorem keep_l (ik : Nat → Int32) {s : Nat} (hs : s < 2) {now : Nat → Int32} (hd : mdR now 0 E nx) (kp : Nat → Int32) : ∃ kp', mX11_keep_L21 now ik (nI s) kFU 0 kp = some (nI E.length, upd ik s (vp_nar .boolean 1), kp') ∧ (∀ i, i < 50 → kp' (50 * s + i) = now i) ∧ ∀ t, (t < 50 * s ∨ 50 * s + 50 ≤ t) → kp' t = kp t := by
  have em : mX11_many now 0 = some (nI E.length) := md_many hd
  have key : ∀ (j i fuel : Nat) (w : Nat → Int32), i + j = 50 → j < fuel → ∃ w', mX11_keep_L21 now ik (nI s) fuel (nI i) w = some (nI E.length, upd ik s (vp_nar .boolean 1), w') ∧ (∀ t, (t < 50 * s + i ∨ 50 * s + 50 ≤ t) → w' t = w t) ∧ ∀ t, i ≤ t → t < 50 → w' (50 * s + t) = now t := by
    intro j
    induction j with
    | zero =>
      intro i fuel w hi hf
      obtain ⟨m, rfl⟩ := fuel_s hf
      exact ⟨w, by rw [mX11_keep_L21, if_pos (le50_t (by omega) (by omega)), em, Option.bind_some, i_cl (by omega)], fun _ _ => rfl, fun t q1 q2 => by omega⟩
    | succ j ih =>
      intro i fuel w hi hf
      obtain ⟨m, rfl⟩ := fuel_s hf
      obtain ⟨w', b1, b2, b3⟩ := ih (i + 1) m (upd w (50 * s + i) (now i)) (by omega) (by omega)
      refine ⟨w', ?_, fun t ht => ?_, fun t ht1 ht2 => ?_⟩
      · rw [mX11_keep_L21, if_neg (le50_f (by omega)), m50a, gd_n (by omega) (by omega), gd_n (by omega) (by omega), i_cl (by omega), i_cl (by omega), nI_1]
        exact b1
      · rw [b2 t (by omega), upd_n (by omega)]
      · by_cases hti : t = i
        · subst hti; rw [b2 _ (by omega), upd_s]
        · exact b3 t (by omega) ht2
  obtain ⟨w', b1, b2, b3⟩ := key 50 0 kFU kp rfl (kFU_b (by omega))
  exact ⟨w', b1, fun i hi => b3 i (Nat.zero_le _) hi, fun t ht => b2 t (by omega)⟩
theorem again_l {s : Nat} (hs : s < 2) {kp : Nat → Int32} (hb : mdB kp s E nx) (now : Nat → Int32) : ∃ now', mX11_again_L26 kp (nI s) kFU 0 now = some (nI E.length, 0, now') ∧ mdR now' 0 E nx := by
  have key : ∀ (j i fuel : Nat) (w : Nat → Int32), i + j = 50 → j < fuel → ∃ w', mX11_again_L26 kp (nI s) fuel (nI i) w = mX11_again_J55 w' ∧ (∀ t, t < i → w' t = w t) ∧ ∀ t, i ≤ t → t < 50 → w' t = kp (50 * s + t) := by
    intro j
    induction j with
    | zero =>
      intro i fuel w hi hf
      obtain ⟨m, rfl⟩ := fuel_s hf
      exact ⟨w, by rw [mX11_again_L26, if_pos (le50_t (by omega) (by omega))], fun _ _ => rfl, fun t q1 q2 => by omega⟩
    | succ j ih =>
      intro i fuel w hi hf
      obtain ⟨m, rfl⟩ := fuel_s hf
      obtain ⟨w', b1, b2, b3⟩ := ih (i + 1) m (upd w i (kp (50 * s + i))) (by omega) (by omega)
      refine ⟨w', ?_, fun t ht => ?_, fun t ht1 ht2 => ?_⟩
      · rw [mX11_again_L26, if_neg (le50_f (by omega)), m50a, gd_n (by omega) (by omega), gd_n (by omega) (by omega), i_cl (by omega), i_cl (by omega), nI_1]
        exact b1
      · rw [b2 t (by omega), upd_n (by omega)]
      · by_cases hti : t = i
        · subst hti; rw [b2 _ (by omega), upd_s]
        · exact b3 t (by omega) ht2
  obtain ⟨w', b1, -, b3⟩ := key 50 0 kFU now rfl (kFU_b (by omega))
  have hd : mdR w' 0 E nx := (hb.copy (g := w') (c := 0) fun i hi => by rw [Nat.mul_zero, Nat.zero_add]; exact b3 i (Nat.zero_le _) hi).toR
  have em : mX11_many w' 0 = some (nI E.length) := md_many hd
  have b1' : mX11_again_L26 kp (nI s) kFU 0 now = mX11_again_J55 w' := b1
  exact ⟨w', by rw [b1', mX11_again_J55, em, Option.bind_some], hd⟩
end BL
