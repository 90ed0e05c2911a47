/-! what the class finds wrong first in a row: the rule's -/
section CF
variable {g cvd cvr : Int64} {rch rs : Int32} {rf : Nat → Int32}
theorem rowAt {T p q : List Nat} {v k : Nat} (hr : rowR 8 rs rf (T.map nI)) (e : T = p ++ v :: q) (hk : k = p.length) (h8 : T.length ≤ 8) : mX6_at 8 rs rf (nI k) = nI v := by
  have : p.length < T.length := by rw [e, List.length_append, List.length_cons]; omega
  rw [at_n hr (by omega), List.getD_eq_getElem?_getD, List.getElem?_map, e, hk, List.getElem?_append_right (Nat.le_refl _), Nat.sub_self]; rfl
theorem inPlace_n (h : cvR g cvd cvr rch) {T p q : List Nat} {v : Nat} (hr : rowR 8 rs rf (T.map nI)) (e : T = p ++ v :: q) (h8 : T.length ≤ 8) (hv8 : v < 8) (hra : RA (gE g) v) (hp8 : ∀ x, x ∈ p → x < 8) : ∃ b, mX2_isInPlace 8 cvd cvr rs rf (nI v) (nI p.length) = some b ∧ (b = true ↔ (p = [] → v = 0) ∧ (p ≠ [] → Behind (gE g) p v)) := by
  have hpl : p.length < T.length := by rw [e, List.length_append, List.length_cons]; omega
  rw [mX2_isInPlace]
  by_cases hp : p = []
  · subst hp
    rw [if_pos (show nI ([] : List Nat).length = 0 from rfl), mX2_isInPlace_J8, if_pos (show nI ([] : List Nat).length = 0 from rfl)]
    by_cases h0 : v = 0
    · rw [if_pos (show nI v = 0 by rw [h0]; rfl)]
      exact ⟨true, rfl, ⟨fun _ => ⟨fun _ => h0, fun z => absurd rfl z⟩, fun _ => rfl⟩⟩
    · rw [if_neg (show ¬ nI v = 0 from fun z => h0 ((nI_eq (b := 0) (by omega) (by omega)).mp z))]
      exact ⟨false, rfl, ⟨fun z => (by cases z), fun z => absurd (z.1 rfl) h0⟩⟩
  · have hpn : 0 < p.length := List.length_pos_iff.mpr hp
    have hne : ¬ nI p.length = 0 := fun z => by have := (nI_eq (b := 0) (by omega) (by omega)).mp z; omega
    rw [if_neg hne]
    by_cases h0 : v = 0
    · subst h0
      rw [if_pos (show nI 0 = 0 from rfl), mX2_isInPlace_J8, if_neg hne]
      refine ⟨false, rfl, ⟨fun z => (by cases z), fun z => ?_⟩⟩
      obtain ⟨l, hl, _⟩ := z.2 hp
      exact absurd hl.1.of_root hl.2.1
    · rw [if_neg (show ¬ nI v = 0 from fun z => h0 ((nI_eq (b := 0) (by omega) (by omega)).mp z))]
      obtain ⟨p', u, ep⟩ := last_ex p hp
      have hu8 : u < 8 := hp8 u (by rw [ep]; simp)
      have hat : mX6_at 8 rs rf (nI p.length - 1) = nI u := by
        rw [i_pred hpn]
        exact rowAt hr (p := p') (q := v :: q) (by rw [e, ep, List.append_assoc]; rfl) (by rw [ep]; simp) h8
      obtain ⟨l0, hl0, hlid0⟩ := lid_ex (fun d hd => RA8 hd) hra h0
      rcases lid_n h hv8 with ⟨l, hl8, el, hlid⟩ | ⟨_, hno⟩
      · rw [el, Option.bind_some, hat, isIn_n _ hu8, mX2_coveredBy]
        refine ⟨_, rfl, ?_⟩
        rw [h.cvs hl8]
        constructor
        · exact fun z => ⟨fun y => absurd y hp, fun _ => ⟨l, hlid, p', u, ep, z⟩⟩
        · intro z
          obtain ⟨l2, h2, p2, u2, e2, c2⟩ := z.2 hp
          rw [ep] at e2
          obtain ⟨-, rfl⟩ := last_eq e2
          have : l2 = l := (hlid.2.2 l2 h2.1 h2.2.1).anti (h2.2.2 l hlid.1 hlid.2.1)
          rw [← this]; exact c2
      · exact absurd hlid0 (hno l0)
theorem cmis_n (h : cvR g cvd cvr rch) {T : List Nat} (hr : rowR 8 rs rf (T.map nI)) (h10 : ∀ z, z ∈ T → z < 10) (h8 : T.length ≤ 8) : mX2_firstMisplaced 8 cvd cvr rch rs rf = some (match fw1 (gE g) [] T with | some i => nI i | none => -9) := by
  have hsz : rs = nI T.length := by have := hr.1; rwa [List.length_map] at this
  have key1 : ∀ (q p : List Nat) (fuel : Nat) (acc : Int32), T = p ++ q → q.length < fuel → s8 acc → (∀ x, bt acc x = true ↔ x ∈ p) → (∀ x, x ∈ p → x < 8) → mX2_firstMisplaced_L4 cvd cvr rch rs rf 8 fuel acc (nI p.length) = some (match fw1 (gE g) p q with | some i => nI i | none => -9) := by
    intro q
    induction q with
    | nil =>
      intro p fuel acc e hf ha hb hp8
      obtain ⟨m, rfl⟩ := fuel_s hf
      rw [mX2_firstMisplaced_L4, mX6_size, hsz, if_pos (nI_le_t (by rw [e, List.append_nil]; exact Nat.le_refl _) (by rw [e, List.append_nil] at h8; omega))]
      rfl
    | cons v q ih =>
      intro p fuel acc e hf ha hb hp8
      obtain ⟨m, rfl⟩ := fuel_s hf
      have hlen : T.length = p.length + q.length + 1 := by rw [e]; simp only [List.length_append, List.length_cons]; omega
      have hv10 : v < 10 := h10 v (by rw [e]; simp)
      have hv := rowAt hr e rfl h8
      rw [mX2_firstMisplaced_L4, mX6_size, if_neg (by rw [hsz]; exact nI_le_f (by omega) (by omega)), hv, mX2_isReached, fw1]
      have hbad : ¬ PlOK (gE g) p v → mX2_firstMisplaced_J42 (mX2_firstMisplaced_L4 cvd cvr rch rs rf 8 m) cvd cvr rs rf 8 acc (nI p.length) false = some (match @ite _ (PlOK (gE g) p v) (Classical.propDecidable _) (fw1 (gE g) (p ++ [v]) q) (some p.length) with | some i => nI i | none => -9) := fun z => by rw [if_neg z, mX2_firstMisplaced_J42, if_neg Bool.false_ne_true]
      by_cases hv8 : v < 8
      · rw [isIn_n _ hv8, isIn_n _ hv8]
        by_cases hra : bt rch v = true
        · rw [if_pos hra]
          have hR := (h.2.1 v).mp hra
          by_cases hin : bt acc v = true
          · rw [if_pos hin]
            exact hbad fun z => z.2.1 ((hb v).mp hin)
          · rw [if_neg hin]
            have hvp : v ∉ p := fun z => hin ((hb v).mpr z)
            obtain ⟨b, eb, hbb⟩ := inPlace_n h hr e h8 hv8 hR hp8
            rw [mX2_firstMisplaced_J42, if_pos rfl, hv, eb, Option.bind_some]
            by_cases hb1 : b = true
            · obtain ⟨z1, z2⟩ := hbb.mp hb1
              rw [if_pos hb1, if_pos (show PlOK (gE g) p v from ⟨hR, hvp, z1, z2⟩), nI_1]
              have := ih (p ++ [v]) m (acc ||| mX5_only (nI v)) (by rw [e, List.append_assoc]; rfl) (by simp only [List.length_cons] at hf; omega) (s8_or ha (s8_only hv8)) (fun x => by rw [b_or, Bool.or_eq_true, hb x, only_b (by omega), decide_eq_true_eq, List.mem_append, List.mem_singleton]) (fun x hx => by
                rcases List.mem_append.mp hx with y | y
                · exact hp8 x y
                · rw [List.mem_singleton] at y; omega)
              rw [List.length_append, List.length_singleton] at this
              exact this
            · rw [if_neg hb1, if_neg (fun z : PlOK (gE g) p v => hb1 (hbb.mpr ⟨z.2.2.1, z.2.2.2⟩))]
        · rw [if_neg hra]
          exact hbad fun z => hra ((h.2.1 v).mpr z.1)
      · rw [isIn_big _ (by omega) (by omega), if_neg Bool.false_ne_true]
        exact hbad fun z => hv8 (RA8 z.1)
  exact key1 T [] kFU 0 rfl (kFU_b (by omega)) s8_0 (fun x => by rw [b_0]; exact ⟨fun z => (by cases z), fun z => absurd z List.not_mem_nil⟩) (fun x hx => absurd hx List.not_mem_nil)
end CF
