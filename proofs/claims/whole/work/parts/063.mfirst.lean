/-! what the reference finds wrong first: the rule's -/
theorem has_m9 {s : Int32} (h : s8 s) : mX11_has s (-9) = false := by
  have e : mX11_has s (-9) = mX11_has s (nI 23) := by
    unfold mX11_has
    rw [show ((-9 : Int32) &&& 31) = (nI 23 &&& 31) by decide]
  rw [e, has_n _ (by omega), h 23 (by omega)]
section MFW
variable {E : List (Nat × Nat)} {now cov sh : Nat → Int32} {nx : Nat} {mrch : Int32}
theorem mfirst_n (h : mdR now 0 E nx) (hE : okE E) (hc : mcR cov mrch (pE (ePr E))) (hR : ∀ d, RA (pE (ePr E)) d → d < 8) {T : List Nat} (hs : shR sh T) (h10 : ∀ z, z ∈ T → z < 10) (hl : T.length ≤ 8) : mX11_firstWrong mrch now cov sh (nI T.length) = some (fwR (pE (ePr E)) T) := by
  have key2 : (∀ q1 v q2, T = q1 ++ v :: q2 → PlOK (pE (ePr E)) q1 v) → ∀ (q p : List Nat) (fuel : Nat), T = p ++ q → p ≠ [] → q.length < fuel → mX11_firstWrong_L108 mrch now cov sh (nI T.length) fuel (nI p.length) = some (match fw2 (pE (ePr E)) p q with | some i => nI i | none => -9) := by
    intro hok
    have h8 : ∀ z, z ∈ T → z < 8 := fun z hz => by
      obtain ⟨s, t, e⟩ := List.append_of_mem hz
      exact hR z (hok s z t e).1
    intro q
    induction q with
    | nil =>
      intro p fuel e hp hf
      obtain ⟨m, rfl⟩ := fuel_s hf
      rw [mX11_firstWrong_L108, if_pos (nI_le_t (by rw [e, List.append_nil]; exact Nat.le_refl _) (by rw [e, List.append_nil] at hl; omega))]
      rfl
    | cons v q ih =>
      intro p fuel e hp hf
      obtain ⟨m, rfl⟩ := fuel_s hf
      have hlen : T.length = p.length + q.length + 1 := by rw [e]; simp only [List.length_append, List.length_cons]; omega
      obtain ⟨l, hlid, -⟩ := (hok p v q e).2.2.2 hp
      obtain ⟨b, eb, hb⟩ := mshown_n (p := p) (q := q) (v := v) h hE hc (by rw [← e]; exact hs) (by rw [← e]; exact h8) (by rw [← e]; exact hl) ⟨l, hR l hlid.1.ra1, hlid⟩ hR
      rw [← e] at eb
      rw [mX11_firstWrong_L108, if_neg (nI_le_f (by omega) (by omega)), eb, Option.bind_some, fw2]
      by_cases hsh : Shn (pE (ePr E)) p v q
      · rw [if_pos (hb.mpr hsh), if_pos (Or.inr hsh), nI_1]
        have := ih (p ++ [v]) m (by rw [e, List.append_assoc]; rfl) (by simp) (by simp only [List.length_cons] at hf; omega)
        rw [List.length_append, List.length_singleton] at this
        exact this
      · rw [if_neg (fun z => hsh (hb.mp z)), if_neg (fun z => z.elim hp hsh)]
  have key1 : ∀ (q p : List Nat) (fuel : Nat) (acc : Int32), T = p ++ q → q.length < fuel → s8 acc → (∀ x, bt acc x = true ↔ x ∈ p) → (∀ p1 w p2, p = p1 ++ w :: p2 → PlOK (pE (ePr E)) p1 w) → mX11_firstWrong_L4 mrch now cov sh (nI T.length) fuel acc (nI p.length) = match fw1 (pE (ePr E)) p q with | some i => some (nI i) | none => mX11_firstWrong_L108 mrch now cov sh (nI T.length) kFU 1 := by
    intro q
    induction q with
    | nil =>
      intro p fuel acc e hf ha hb hok
      obtain ⟨m, rfl⟩ := fuel_s hf
      rw [mX11_firstWrong_L4, if_pos (nI_le_t (by rw [e, List.append_nil]; exact Nat.le_refl _) (by rw [e, List.append_nil] at hl; omega))]
      rfl
    | cons v q ih =>
      intro p fuel acc e hf ha hb hok
      obtain ⟨m, rfl⟩ := fuel_s hf
      have hlen : T.length = p.length + q.length + 1 := by rw [e]; simp only [List.length_append, List.length_cons]; omega
      have hv10 : v < 10 := h10 v (by rw [e]; simp)
      have hsx : shR sh (p ++ v :: q) := by rw [← e]; exact hs
      have hv := hsx.at (k := p.length) rfl
      rw [mX11_firstWrong_L4, if_neg (nI_le_f (by omega) (by omega)), gd_n (by omega) (by omega), i_cl (a := p.length) (by omega), hv, in07 v hv10, has_n _ (by omega), has_n _ (by omega), fw1]
      have hbad : ¬ PlOK (pE (ePr E)) p v → (some (nI p.length) : Option Int32) = match @ite _ (PlOK (pE (ePr E)) p v) (Classical.propDecidable _) (fw1 (pE (ePr E)) (p ++ [v]) q) (some p.length) with | some i => some (nI i) | none => mX11_firstWrong_L108 mrch now cov sh (nI T.length) kFU 1 := fun z => by rw [if_neg z]
      by_cases hv8 : v < 8
      · rw [if_pos (decide_eq_true hv8)]
        by_cases hr : bt mrch v = true
        · have hra := (hc.2.1 v).mp hr
          rw [if_pos hr]
          by_cases hin : bt acc v = true
          · rw [if_pos hin]
            exact hbad fun z => z.2.1 ((hb v).mp hin)
          · have hvp : v ∉ p := fun z => hin ((hb v).mpr z)
            have hgo : PlOK (pE (ePr E)) p v → mX11_firstWrong_J93 (mX11_firstWrong_L4 mrch now cov sh (nI T.length) m) sh acc (nI p.length) = match @ite _ (PlOK (pE (ePr E)) p v) (Classical.propDecidable _) (fw1 (pE (ePr E)) (p ++ [v]) q) (some p.length) with | some i => some (nI i) | none => mX11_firstWrong_L108 mrch now cov sh (nI T.length) kFU 1 := by
              intro z
              rw [if_pos z, mX11_firstWrong_J93, i_cl (a := p.length) (by omega), hv, nI_1]
              have ho : ∀ i, bt (acc ||| 1 <<< (nI v &&& 31)) i = (bt acc i || decide (i = v)) := fun i => by
                rw [b_or]; congr 1; exact only_b (by omega) i
              have := ih (p ++ [v]) m (acc ||| 1 <<< (nI v &&& 31)) (by rw [e, List.append_assoc]; rfl) (by simp only [List.length_cons] at hf; omega) (s8_or ha (s8_only (k := v) hv8)) (fun x => by rw [ho, Bool.or_eq_true, hb x, decide_eq_true_eq, List.mem_append, List.mem_singleton]) (fun p1 w p2 e1 => by
                rcases split_app e1 with ⟨q', e2, -⟩ | ⟨p', e2, e3⟩
                · exact hok p1 w q' e2
                · cases p' with
                  | nil =>
                    simp only [List.nil_append, List.cons.injEq] at e3
                    rw [List.append_nil] at e2
                    rw [e2, ← e3.1]; exact z
                  | cons y p' => simp at e3)
              rw [List.length_append, List.length_singleton] at this
              exact this
            rw [if_neg hin]
            by_cases hp : p = []
            · subst hp
              rw [if_pos (show nI ([] : List Nat).length = 0 from rfl)]
              by_cases h0 : v = 0
              · rw [if_pos (show nI v = 0 by rw [h0]; rfl), mX11_firstWrong_J62, if_pos (by decide)]
                exact hgo ⟨hra, hvp, fun _ => h0, fun z => absurd rfl z⟩
              · rw [if_neg (show ¬ nI v = 0 from fun z => h0 ((nI_eq (b := 0) (by omega) (by omega)).mp z))]
                exact hbad fun z => h0 (z.2.2.1 rfl)
            · obtain ⟨p', u, ep⟩ := last_ex p hp
              have hpl : p.length = p'.length + 1 := by rw [ep]; simp
              have hsu : shR sh (p' ++ u :: (v :: q)) := by rw [show p' ++ u :: (v :: q) = p ++ v :: q by rw [ep]; simp]; exact hsx
              have hu := hsu.at (k := p.length - 1) (by omega)
              have hu8 : u < 8 := hR u (hok p' u [] (by rw [ep])).1
              rw [if_neg (show ¬ nI p.length = 0 from fun z => by have := (nI_eq (b := 0) (by omega) (by omega)).mp z; omega), mX11_firstWrong_J62, if_neg (show ¬ nI p.length ≤ 0 from nI_le_f (b := 0) (by omega) (by omega)), i_pred (by omega), gd_n (by omega) (by omega), i_cl (a := p.length - 1) (by omega), hu, gd_n hu8 (by omega), i_cl (a := p.length) (by omega), hv, i_cl (a := u) (by omega)]
              rcases mlid_n hc hR hv8 with ⟨l, hl8, el, hlid⟩ | ⟨el, hno⟩
              · rw [el, Option.bind_some, has_n _ (by omega)]
                have hbeh : Behind (pE (ePr E)) p v ↔ bt (cov u) l = true := by
                  rw [(hc.2.2 u hu8).2 l]
                  constructor
                  · rintro ⟨l2, h2, p2, u2, e2, c2⟩
                    rw [ep] at e2
                    obtain ⟨-, rfl⟩ := last_eq e2
                    have : l2 = l := (hlid.2.2 l2 h2.1 h2.2.1).anti (h2.2.2 l hlid.1 hlid.2.1)
                    rw [← this]; exact c2
                  · exact fun z => ⟨l, hlid, p', u, ep, z⟩
                by_cases hcu : bt (cov u) l = true
                · rw [if_pos hcu]
                  exact hgo ⟨hra, hvp, fun z => absurd z hp, fun _ => hbeh.mpr hcu⟩
                · rw [if_neg hcu]
                  exact hbad fun z => hcu (hbeh.mp (z.2.2.2 hp))
              · rw [el, Option.bind_some, has_m9 (hc.2.2 u hu8).1, if_neg Bool.false_ne_true]
                exact hbad fun z => by
                  obtain ⟨l2, h2, _⟩ := z.2.2.2 hp
                  exact hno l2 h2
        · rw [if_neg hr]
          exact hbad fun z => hr ((hc.2.1 v).mpr z.1)
      · rw [if_neg (by rw [decide_eq_false hv8]; decide)]
        exact hbad fun z => hv8 (hR v z.1)
  have e0 : mX11_firstWrong_L4 mrch now cov sh (nI T.length) kFU 0 0 = _ := key1 T [] kFU 0 rfl (kFU_b (by omega)) s8_0 (fun x => by rw [b_0]; exact ⟨fun z => (by cases z), fun z => absurd z List.not_mem_nil⟩) (fun p1 w p2 z => by simp at z)
  rw [mX11_firstWrong, e0, fwR]
  cases h1 : fw1 (pE (ePr E)) [] T with
  | some i => rfl
  | none =>
    have hok := (fw1_none (E := pE (ePr E)) T []).mp h1
    cases T with
    | nil => rfl
    | cons a t =>
      have := key2 hok t [a] kFU rfl (by simp) (by rw [List.length_cons] at hl; exact kFU_b (by omega))
      show mX11_firstWrong_L108 mrch now cov sh (nI (a :: t).length) kFU (nI [a].length) = _
      rw [this, fw2, if_pos (Or.inl rfl)]
      rfl
end MFW
