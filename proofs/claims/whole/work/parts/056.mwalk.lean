/-! the reference's walk: the same as the class's -/
theorem idx_mapN : ∀ (l : List Nat) (v : Nat), (∀ x, x ∈ l → x < 2 ^ 31) → v < 2 ^ 31 → (l.map nI).idxOf (nI v) = l.idxOf v := by
  intro l
  induction l with
  | nil => intro v _ _; rfl
  | cons a l ih =>
    intro v h hv
    rw [List.map_cons]
    by_cases e : a = v
    · subst e; rw [List.idxOf_cons_self, List.idxOf_cons_self]
    · rw [idxOf_ne e, idxOf_ne (fun q => e ((nI_eq (h a List.mem_cons_self) hv).mp q)), ih v (fun x hx => h x (List.mem_cons_of_mem _ hx)) hv]
theorem mem_mapN {l : List Nat} {v : Nat} (h : ∀ x, x ∈ l → x < 2 ^ 31) (hv : v < 2 ^ 31) : nI v ∈ l.map nI ↔ v ∈ l := by
  constructor
  · intro q
    obtain ⟨x, hx, e⟩ := List.mem_map.mp q
    rw [(nI_eq (h x hx) hv).mp e] at hx; exact hx
  · exact fun q => List.mem_map.mpr ⟨v, q, rfl⟩
theorem plc_map {l : List Nat} {v : Nat} (h : ∀ x, x ∈ l → x < 2 ^ 31) (hv : v < 2 ^ 31) : plc (l.map nI) (nI v) = plcP l v := by
  unfold plc plcP
  rw [idx_mapN l v h hv]
  by_cases e : v ∈ l
  · rw [if_pos e, if_pos ((mem_mapN h hv).mpr e)]
  · rw [if_neg e, if_neg (fun q => e ((mem_mapN h hv).mp q))]
theorem find_at {α : Type} (p : α → Bool) : ∀ (l : List α) (k : Nat) (e : α), l[k]? = some e → p e = true → (∀ j x, j < k → l[j]? = some x → p x = false) → l.find? p = some e := by
  intro l
  induction l with
  | nil => intro k e h; simp at h
  | cons a l ih =>
    intro k e h hp hb
    cases k with
    | zero =>
      rw [List.getElem?_cons_zero, Option.some.injEq] at h
      subst h
      rw [List.find?_cons, hp]
    | succ k =>
      rw [List.getElem?_cons_succ] at h
      rw [List.find?_cons, hb 0 a (by omega) (List.getElem?_cons_zero)]
      exact ih k e h hp fun j x hj hx => hb (j + 1) x (by omega) (by rw [List.getElem?_cons_succ]; exact hx)
def sm8 (t : Nat → Nat) : Nat := t 0 + t 1 + t 2 + t 3 + t 4 + t 5 + t 6 + t 7
def tr1 (t : Nat → Nat) (w : Nat) : Nat → Nat := fun v => if v = w then t w + 1 else t v
theorem sm8_1 (t : Nat → Nat) {w : Nat} (hw : w < 8) : sm8 (tr1 t w) = sm8 t + 1 := by
  unfold sm8 tr1
  rcases Nat.lt_or_ge w 4 with h | h
  · rcases Nat.lt_or_ge w 2 with h2 | h2
    · rcases Nat.lt_or_ge w 1 with h3 | h3
      · have : w = 0 := by omega
        subst this; simp; omega
      · have : w = 1 := by omega
        subst this; simp; omega
    · rcases Nat.lt_or_ge w 3 with h3 | h3
      · have : w = 2 := by omega
        subst this; simp; omega
      · have : w = 3 := by omega
        subst this; simp; omega
  · rcases Nat.lt_or_ge w 6 with h2 | h2
    · rcases Nat.lt_or_ge w 5 with h3 | h3
      · have : w = 4 := by omega
        subst this; simp; omega
      · have : w = 5 := by omega
        subst this; simp; omega
    · rcases Nat.lt_or_ge w 7 with h3 | h3
      · have : w = 6 := by omega
        subst this; simp; omega
      · have : w = 7 := by omega
        subst this; simp; omega
theorem sm8_le {t : Nat → Nat} {b : Nat} (h : ∀ v, v < 8 → t v ≤ b) : sm8 t ≤ 8 * b := by
  have h0 := h 0 (by omega); have h1 := h 1 (by omega); have h2 := h 2 (by omega); have h3 := h 3 (by omega)
  have h4 := h 4 (by omega); have h5 := h 5 (by omega); have h6 := h 6 (by omega); have h7 := h 7 (by omega)
  unfold sm8; omega
theorem plcP_push {met : List Nat} {x v : Nat} (hx : x ∉ met) : plcP (met ++ [x]) v = if v = x then nI met.length else plcP met v := by
  unfold plcP
  by_cases e : v = x
  · subst e
    rw [if_pos rfl, if_pos (by simp), List.idxOf_append, if_neg hx, List.idxOf_cons_self, Nat.zero_add]
  · rw [if_neg e]
    by_cases hm : v ∈ met
    · rw [if_pos hm, if_pos (List.mem_append_left _ hm), List.idxOf_append, if_pos hm]
    · rw [if_neg hm, if_neg (fun q => by rcases List.mem_append.mp q with z | z; exact hm z; exact e (List.mem_singleton.mp z))]
theorem plcP_9 {met : List Nat} (h : met.length ≤ 8) {v : Nat} : plcP met v = -9 ↔ v ∉ met := by
  unfold plcP
  by_cases e : v ∈ met
  · rw [if_pos e]
    have := List.idxOf_lt_length_of_mem e
    exact ⟨fun q => absurd q (by rw [i_ne9 (by omega)]; exact id), fun q => absurd e q⟩
  · rw [if_neg e]; exact ⟨fun _ => e, fun _ => rfl⟩
section MW
variable {E : List (Nat × Nat)} {now : Nat → Int32} {L nx : Nat}
theorem mwalk_n (h : mdR now L E nx) (hE : okE E) : ∀ (fuel n : Nat) (met st : List Nat) (tr : Nat → Nat) (od wy td : Nat → Int32), 16 * E.length + st.length < fuel + 2 * sm8 tr → 2 * (8 - met.length) + st.length ≤ n → met.Nodup → (∀ x, x ∈ met → x < 8) → (∀ x, x ∈ st → x ∈ met) → st.Nodup → (∀ v, v < 8 → od v = plcP met v) → (∀ i x, st.reverse[i]? = some x → wy i = nI x) → (∀ v, v < 8 → td v = nI (tr v) ∧ tr v ≤ E.length) → (∀ v, v < 8 → ∀ j e, j < tr v → E[j]? = some e → e.2 / 10 = v → e.2 % 10 ∈ met) → ∃ od' wy' td', mX11_walk_L47 now (nI L) fuel (nI met.length) (nI st.length) od wy td = some (od', wy', td') ∧ ∀ v, v < 8 → od' v = plcP (walkP (ePr E) n met st) v := by
  have h4 := h.2.2.2.1
  intro fuel
  induction fuel with
  | zero =>
    intro n met st tr od wy td hf _ _ _ _ _ _ _ htd _
    have := sm8_le (t := tr) (b := E.length) (fun v hv => (htd v hv).2)
    omega
  | succ m ih =>
    intro n met st tr od wy td hf hn hnd hm8 hsub hst hod hwy htd hinv
    have hml : met.length ≤ 8 := nodup8 hnd hm8
    have hsl : st.length ≤ 8 := nodup8 hst (fun x hx => hm8 x (hsub x hx))
    rw [mX11_walk_L47]
    cases st with
    | nil =>
      rw [if_pos (by decide)]
      exact ⟨od, wy, td, rfl, fun v hv => by rw [walkP_nil]; exact hod v hv⟩
    | cons v st =>
      rw [List.length_cons] at hsl hf hn
      have hvm : v ∈ met := hsub v List.mem_cons_self
      have hv8 := hm8 v hvm
      obtain ⟨n, rfl⟩ : ∃ n', n = n' + 1 := ⟨n - 1, by omega⟩
      have hpre : nI (v :: st).length - 1 = nI st.length := nI_pred _
      have htop : wy st.length = nI v := hwy _ _ (by rw [List.reverse_cons, List.getElem?_append_right (by rw [List.length_reverse]; omega), List.length_reverse, Nat.sub_self]; rfl)
      obtain ⟨ht1, ht2⟩ := htd v hv8
      rw [if_neg (by rw [List.length_cons]; exact nI_nle (by omega) (by omega)), hpre, gd_n (by omega) (by omega), i_cl (a := st.length) (by omega), htop, gd_n hv8 (by omega), md_many h, Option.bind_some, i_cl (a := v) (by omega), ht1]
      by_cases hfull : tr v = E.length
      · rw [if_pos (by rw [hfull]), show nI (v :: st).length + (-1) = nI st.length from by rw [i_m1 (by rw [List.length_cons]; omega)]; rfl]
        have hfw : fwP (ePr E) v met = none := by
          unfold fwP
          rw [List.find?_eq_none]
          intro p hp
          obtain ⟨e, he, rfl⟩ := List.mem_map.mp hp
          obtain ⟨j, hj⟩ := List.mem_iff_getElem?.mp he
          have hjl : j < E.length := (List.getElem?_eq_some_iff.mp hj).1
          by_cases hv : e.2 / 10 = v
          · rw [decide_eq_true hv, decide_eq_true (hinv v hv8 j e (by omega) hj hv)]; decide
          · rw [decide_eq_false hv, Bool.false_and]; decide
        rw [walkP, hfw]
        exact ih n met st tr od wy td (by omega) (by omega) hnd hm8 (fun x hx => hsub x (List.mem_cons_of_mem _ hx)) (List.nodup_cons.mp hst).2 hod (fun i x hx => by
          have hi : i < st.reverse.length := (List.getElem?_eq_some_iff.mp hx).1
          exact hwy i x (by rw [List.reverse_cons, List.getElem?_append_left hi]; exact hx)) htd hinv
      · have hlt : tr v < E.length := by omega
        obtain ⟨e, he⟩ : ∃ e, E[tr v]? = some e := ⟨_, List.getElem?_eq_getElem hlt⟩
        have hb := (hE.2.1 e (List.mem_of_getElem? he)).2
        have htd2 : ∀ u, u < 8 → upd td v (nI (tr v) + 1) u = nI (tr1 tr v u) ∧ tr1 tr v u ≤ E.length := by
          intro u hu
          unfold tr1
          by_cases q : u = v
          · subst q; rw [if_pos rfl, upd_s, nI_1]; exact ⟨rfl, by omega⟩
          · rw [if_neg q, upd_n q]; exact htd u hu
        have hinv2 : ∀ met' : List Nat, (∀ x, x ∈ met → x ∈ met') → (e.2 / 10 = v → e.2 % 10 ∈ met') → ∀ u, u < 8 → ∀ j e', j < tr1 tr v u → E[j]? = some e' → e'.2 / 10 = u → e'.2 % 10 ∈ met' := by
          intro met' hs hw u hu j e' hj he' hu'
          unfold tr1 at hj
          by_cases q : u = v
          · subst q
            rw [if_pos rfl] at hj
            rcases Nat.lt_succ_iff_lt_or_eq.mp hj with z | z
            · exact hs _ (hinv u hu j e' z he' hu')
            · subst z
              rw [he, Option.some.injEq] at he'
              subst he'
              exact hw hu'
          · rw [if_neg q] at hj
            exact hs _ (hinv u hu j e' hj he' hu')
        rw [if_neg (fun q => hfull ((nI_eq (by omega) (by omega)).mp q)), gd_n hv8 (by omega), gd_n hv8 (by omega), md_to h hE he, Option.bind_some, md_from h hE he, Option.bind_some]
        have hskip : (e.2 / 10 = v → e.2 % 10 ∈ met) → ∃ od' wy' td', mX11_walk_L47 now (nI L) m (nI met.length) (nI (v :: st).length) od wy (upd td v (nI (tr v) + 1)) = some (od', wy', td') ∧ ∀ u, u < 8 → od' u = plcP (walkP (ePr E) (n + 1) met (v :: st)) u := fun hw =>
          ih (n + 1) met (v :: st) (tr1 tr v) od wy _ (by rw [sm8_1 tr hv8, List.length_cons]; omega) (by rw [List.length_cons]; omega) hnd hm8 hsub hst hod hwy htd2 (hinv2 met (fun _ q => q) hw)
        by_cases hfrom : e.2 / 10 = v
        · rw [if_pos (by rw [hfrom]), gd_n (by omega) (by omega), i_cl (a := e.2 % 10) (by omega), hod _ (by omega)]
          by_cases hin : e.2 % 10 ∈ met
          · rw [if_neg (fun q => (plcP_9 hml).mp q hin)]
            exact hskip fun _ => hin
          · rw [if_pos ((plcP_9 hml).mpr hin), gd_n (by omega) (by omega)]
            have hnd2 : (met ++ [e.2 % 10]).Nodup := by
              rw [List.nodup_append]
              exact ⟨hnd, nodup1 _, fun x hx y hy z => by rw [List.mem_singleton] at hy; subst hy; subst z; exact hin hx⟩
            have hm82 : ∀ x, x ∈ met ++ [e.2 % 10] → x < 8 := fun x hx => by
              rcases List.mem_append.mp hx with q | q
              · exact hm8 x q
              · rw [List.mem_singleton] at q; omega
            have hml2 := nodup8 hnd2 hm82
            rw [List.length_append, List.length_singleton] at hml2
            have hsub2 : ∀ x, x ∈ e.2 % 10 :: v :: st → x ∈ met ++ [e.2 % 10] := fun x hx => by
              rcases List.mem_cons.mp hx with q | q
              · exact List.mem_append_right _ (List.mem_singleton.mpr q)
              · exact List.mem_append_left _ (hsub x q)
            have hst2 : (e.2 % 10 :: v :: st).Nodup := List.nodup_cons.mpr ⟨fun q => hin (hsub _ q), hst⟩
            have hsl2 : st.length + 1 < 8 := by
              have := nodup8 hst2 (fun x hx => hm82 x (hsub2 x hx))
              rw [List.length_cons, List.length_cons] at this; omega
            have hfw : fwP (ePr E) v met = some e.2 := by
              unfold fwP
              refine find_at _ _ (tr v) e.2 (by rw [ePr, List.getElem?_map, he]; rfl) (by rw [decide_eq_true hfrom, decide_eq_false hin]; rfl) fun j x hj hx => ?_
              rw [ePr, List.getElem?_map] at hx
              obtain ⟨e', he', rfl⟩ := Option.map_eq_some_iff.mp hx
              by_cases hv : e'.2 / 10 = v
              · rw [decide_eq_true hv, decide_eq_true (hinv v hv8 j e' hj he' hv)]; rfl
              · rw [decide_eq_false hv]; rfl
            rw [List.length_cons, gd_n hsl2 (by omega), nI_1, nI_1, i_cl (a := st.length + 1) (by omega), walkP, hfw]
            have := ih n (met ++ [e.2 % 10]) (e.2 % 10 :: v :: st) (tr1 tr v) (upd od (e.2 % 10) (nI met.length)) (upd wy (st.length + 1) (nI (e.2 % 10))) (upd td v (nI (tr v) + 1)) (by rw [sm8_1 tr hv8, List.length_cons, List.length_cons]; omega) (by rw [List.length_cons, List.length_cons, List.length_append, List.length_singleton]; omega) hnd2 hm82 hsub2 hst2 (fun u hu => by
              rw [plcP_push hin]
              by_cases q : u = e.2 % 10
              · rw [if_pos q, q, upd_s]
              · rw [if_neg q, upd_n q]; exact hod u hu) (fun i x hx => by
              rw [List.reverse_cons] at hx
              by_cases q : i < (v :: st).reverse.length
              · rw [List.getElem?_append_left q] at hx
                rw [List.length_reverse, List.length_cons] at q
                rw [upd_n (by omega)]; exact hwy i x hx
              · rw [List.getElem?_append_right (by omega)] at hx
                rw [List.length_reverse, List.length_cons] at q hx
                have hi : i = st.length + 1 := by
                  rcases Nat.lt_or_ge (i - (st.length + 1)) 1 with z | z
                  · omega
                  · rw [List.getElem?_eq_none (by rw [List.length_singleton]; omega)] at hx; cases hx
                subst hi
                rw [Nat.sub_self, List.getElem?_cons_zero, Option.some.injEq] at hx
                rw [upd_s, hx]) htd2 (hinv2 _ (fun x q => List.mem_append_left _ q) (fun _ => List.mem_append_right _ (List.mem_singleton.mpr rfl)))
            rw [List.length_append, List.length_singleton, List.length_cons, List.length_cons] at this
            exact this
        · rw [if_neg (fun q => hfrom ((nI_eq (by omega) (by omega)).mp q))]
          exact hskip fun q => absurd q hfrom
theorem mwalk_all (h : mdR now L E nx) (hE : okE E) (od wy td : Nat → Int32) : ∃ od' wy' td', mX11_walk now od wy td (nI L) = some (od', wy', td') ∧ ∀ v, v < 8 → od' v = plcP (walkP (ePr E) 16 [0] [0]) v := by
  have h4 := h.2.2.2.1
  have key : ∀ (j k fuel : Nat) (od td : Nat → Int32), k + j = 8 → j < fuel → (∀ i, i < k → od i = -9 ∧ td i = 0) → ∃ od' wy' td', mX11_walk_L2 now wy (nI L) fuel (nI k) od td = some (od', wy', td') ∧ ∀ v, v < 8 → od' v = plcP (walkP (ePr E) 16 [0] [0]) v := by
    intro j
    induction j with
    | zero =>
      intro k fuel od td hk hf hi
      obtain ⟨m, rfl⟩ := fuel_s hf
      rw [mX11_walk_L2, if_pos (le8_t (by omega) (by omega)), mX11_walk_J29]
      refine mwalk_n h hE kFU 16 [0] [0] (fun _ => 0) (upd od 0 0) (upd wy 0 0) td (by have : sm8 (fun _ => 0) = 0 := rfl; rw [this]; exact kFU_b (by simp; omega)) (by simp) (nodup1 0) (fun x hx => by rw [List.mem_singleton] at hx; omega) (fun _ q => q) (nodup1 0) (fun v hv => ?_) (fun i x hx => ?_) (fun v hv => ⟨(hi v (by omega)).2, Nat.zero_le _⟩) (fun v _ j e q => absurd q (Nat.not_lt_zero _))
      · by_cases q : v = 0
        · subst q; rw [upd_s]; rfl
        · rw [upd_n q, (hi v (by omega)).1, plcP, if_neg (fun z => q (List.mem_singleton.mp z))]
      · cases i with
        | zero =>
          simp at hx
          subst hx; rw [upd_s]; rfl
        | succ i => simp at hx
    | succ j ih =>
      intro k fuel od td hk hf hi
      obtain ⟨m, rfl⟩ := fuel_s hf
      rw [mX11_walk_L2, if_neg (le8_f (by omega)), gd_n (by omega) (by omega), gd_n (by omega) (by omega), i_cl (a := k) (by omega), nI_1]
      refine ih (k + 1) m _ _ (by omega) (by omega) fun i hik => ?_
      by_cases q : i = k
      · subst q; rw [upd_s, upd_s]; exact ⟨rfl, rfl⟩
      · rw [upd_n q, upd_n q]; exact hi i (by omega)
  exact key 8 0 kFU od td rfl (kFU_b (by omega)) fun i q => absurd q (Nat.not_lt_zero _)
end MW
