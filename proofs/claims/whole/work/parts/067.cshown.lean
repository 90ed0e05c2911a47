/-! the class's firstNotShown: the rule's -/
section CS
variable {g cvd cvr : Int64} {rch rs : Int32} {rf : Nat → Int32}
theorem cnot_n (h : cvR g cvd cvr rch) {T : List Nat} (hr : rowR 8 rs rf (T.map nI)) (h8 : T.length ≤ 8) (hok : ∀ q1 v q2, T = q1 ++ v :: q2 → PlOK (gE g) q1 v) (hfull : T.length = ct rch) : mX2_firstNotShown 8 g cvd cvr rch rs rf = some (match fw2 (gE g) [] T with | some i => nI i | none => -9) := by
  have hsz : rs = nI T.length := by have := hr.1; rwa [List.length_map] at this
  have hra : ∀ z, z ∈ T → RA (gE g) z := fun z hz => by
    obtain ⟨s, t, e⟩ := List.append_of_mem hz
    exact (hok s z t e).1
  have hnd : T.Nodup := nodup_of T fun p v q e => (hok p v q e).2.1
  -- those reached are all told: as many as there are
  have hall : ∀ z, RA (gE g) z → z ∈ T := by
    intro z hz
    refine Classical.byContradiction fun hn => ?_
    obtain ⟨T2, sh2, -, -, hA, hT2, hl2⟩ := mfill_n (now := fun _ => 0) (r2 := (rch, fun v => mX5_line cvr (nI v))) (R := gE g) ⟨h.1, h.2.1, fun v hv => ⟨s8_line _ hv, fun d => h.of hv d⟩⟩ 0 (fun _ => 0)
    have := sub_len (z :: T) T2 (List.nodup_cons.mpr ⟨hn, hnd⟩) fun x hx => (hT2 x).mpr (by
      rcases List.mem_cons.mp hx with y | y
      · rw [y]; exact hz
      · exact hra x y)
    rw [List.length_cons, hl2, hfull] at this
    exact absurd this (by show ¬ ct rch + 1 ≤ ct rch; omega)
  have key2 : ∀ (q p : List Nat) (fuel : Nat) (acc : Int32), T = p ++ q → q.length < fuel → s8 acc → (∀ x, bt acc x = true ↔ x ∈ p) → mX2_firstNotShown_L4 g cvd cvr rch rs rf 8 fuel acc (nI p.length) = some (match fw2 (gE g) p q with | some i => nI i | none => -9) := by
    intro q
    induction q with
    | nil =>
      intro p fuel acc e hf ha hb
      obtain ⟨m, rfl⟩ := fuel_s hf
      rw [mX2_firstNotShown_L4, mX6_size, hsz, if_pos (nI_le_t (by rw [e, List.append_nil]; exact Nat.le_refl _) (by rw [e, List.append_nil] at h8; omega))]
      rfl
    | cons v q ih =>
      intro p fuel acc e hf ha hb
      obtain ⟨m, rfl⟩ := fuel_s hf
      have hlen : T.length = p.length + q.length + 1 := by rw [e]; simp only [List.length_append, List.length_cons]; omega
      have hv := rowAt hr e rfl h8
      have hvo := hok p v q e
      have hv8 : v < 8 := RA8 hvo.1
      have hpT : ∀ x, x ∈ p → x ∈ T := fun x hx => by rw [e]; exact List.mem_append_left _ hx
      have hgo : (p = [] ∨ Shn (gE g) p v q) → mX2_firstNotShown_J36 (mX2_firstNotShown_L4 g cvd cvr rch rs rf 8 m) rs rf 8 acc (nI p.length) = some (match @ite _ (p = [] ∨ Shn (gE g) p v q) (Classical.propDecidable _) (fw2 (gE g) (p ++ [v]) q) (some p.length) with | some i => nI i | none => -9) := by
        intro z
        rw [if_pos z, mX2_firstNotShown_J36, hv, nI_1]
        have := ih (p ++ [v]) m (acc ||| mX5_only (nI v)) (by rw [e, List.append_assoc]; rfl) (by simp only [List.length_cons] at hf; omega) (s8_or ha (s8_only hv8)) (fun x => by rw [b_or, Bool.or_eq_true, hb x, only_b (by omega), decide_eq_true_eq, List.mem_append, List.mem_singleton])
        rw [List.length_append, List.length_singleton] at this
        exact this
      rw [mX2_firstNotShown_L4, mX6_size, if_neg (by rw [hsz]; exact nI_le_f (by omega) (by omega)), hv, fw2]
      by_cases hp : p = []
      · have h0 : v = 0 := hvo.2.2.1 hp
        rw [if_pos (show nI v = 0 by rw [h0]; rfl)]
        exact hgo (Or.inl hp)
      · have h0 : v ≠ 0 := by
          intro z
          obtain ⟨l, hl, _⟩ := hvo.2.2.2 hp
          rw [z] at hl
          exact hl.2.1 hl.1.of_root
        rw [if_neg (show ¬ nI v = 0 from fun z => h0 ((nI_eq (b := 0) (by omega) (by omega)).mp z))]
        obtain ⟨b, eb, hbb⟩ := isShown_n h (P := acc) (fun x hx => hra x (hpT x ((hb x).mp hx))) hv8
        rw [eb, Option.bind_some]
        have hiff : b = true ↔ Shn (gE g) p v q := by
          rw [hbb]
          constructor
          · rintro (z | ⟨⟨x, x1, x2⟩, y, y1, y2, y3, y4⟩)
            · exact Or.inl z
            · refine Or.inr ⟨⟨x, (hb x).mp x1, x2⟩, y, ?_, y3, y4⟩
              have hy := hall y y1
              rw [e] at hy
              rcases List.mem_append.mp hy with w | w
              · exact absurd ((hb y).mpr w) y2
              · rcases List.mem_cons.mp w with w | w
                · exact absurd (by rw [w]; exact Cov.self hvo.1) y4
                · exact w
          · rintro (z | ⟨⟨x, x1, x2⟩, y, y1, y2, y3⟩)
            · exact Or.inl z
            · have hyT : y ∈ T := by rw [e]; exact List.mem_append_right _ (List.mem_cons_of_mem _ y1)
              refine Or.inr ⟨⟨x, (hb x).mpr x1, x2⟩, y, hra y hyT, fun w => ?_, y2, y3⟩
              rw [e, List.nodup_append] at hnd
              exact hnd.2.2 y ((hb y).mp w) y (List.mem_cons_of_mem _ y1) rfl
        by_cases hb1 : b = true
        · rw [if_pos hb1]
          exact hgo (Or.inr (hiff.mp hb1))
        · rw [if_neg hb1, if_neg (fun z : p = [] ∨ Shn (gE g) p v q => z.elim hp fun w => hb1 (hiff.mpr w))]
  exact key2 T [] kFU 0 rfl (kFU_b (by omega)) s8_0 (fun x => by rw [b_0]; exact ⟨fun z => (by cases z), fun z => absurd z List.not_mem_nil⟩)
end CS
