/-! the reference: what is reached, who covers whom -/
theorem or0 (x : Int32) : x ||| 0 = x := b_ext fun i _ => by rw [b_or, b_0, Bool.or_false]
theorem has_n (s : Int32) {k : Nat} (hk : k < 32) : mX11_has s (nI k) = bt s k := by
  have h0 : bt (s >>> (nI k &&& 31)) 0 = bt s k := by rw [b_sshr k hk s (by omega), Nat.add_zero, if_pos hk]
  unfold mX11_has
  by_cases h : bt s k = true
  · rw [if_pos ((and1 _).mpr (by rw [h0]; exact h)), h]
  · rw [if_neg (fun q => h (by have := (and1 _).mp q; rw [h0] at this; exact this))]
    exact (Bool.eq_false_iff.mpr h).symm
theorem and1_n (x : Int32) : x &&& 1 = nI (bt x 0).toNat := by
  refine b_ext fun i hi => ?_
  rw [b_and, b_one, bt_nI]
  by_cases e : i = 0
  · subst e; cases bt x 0 <;> simp
  · rw [decide_eq_false e, Bool.and_false]
    cases bt x 0 with
    | false => simp
    | true =>
      show false = (decide (i < 32) && Nat.testBit 1 i)
      rw [show (1 : Nat) = 2 ^ 0 from rfl, Nat.testBit_two_pow, decide_eq_false (p := 0 = i) (by omega), Bool.and_false]
def ctk (s : Int32) : Nat → Nat | 0 => 0 | k + 1 => ctk s k + (bt s k).toNat
theorem ctk8 (s : Int32) : ctk s 8 = ct s := by simp [ctk, ct]
theorem ctk_le (s : Int32) : ∀ k, ctk s k ≤ k
  | 0 => Nat.le_refl _
  | k + 1 => by have := ctk_le s k; have := Bool.toNat_le (bt s k); rw [ctk]; omega
theorem ones_n (s : Int32) : mX11_ones s = some (nI (ct s)) := by
  have key : ∀ (j k fuel : Nat), k + j = 8 → j < fuel → mX11_ones_L4 s fuel (nI (ctk s k)) (nI k) = some (nI (ct s)) := by
    intro j
    induction j with
    | zero =>
      intro k fuel hj hf
      obtain ⟨m, rfl⟩ := fuel_s hf
      obtain rfl : k = 8 := by omega
      rw [mX11_ones_L4, if_pos (le8_t (by omega) (by omega)), ctk8]
    | succ j ih =>
      intro k fuel hj hf
      obtain ⟨m, rfl⟩ := fuel_s hf
      rw [mX11_ones_L4, if_neg (le8_f (by omega)), and1_n, b_sshr k (by omega) s (by omega), Nat.add_zero, if_pos (by omega), nI_add, nI_1]
      exact ih (k + 1) m (by omega) (by omega)
  exact key 8 0 kFU rfl (kFU_b (by omega))
theorem ct_lt {x y : Int32} (h : ∀ i, i < 8 → bt x i = true → bt y i = true) {v : Nat} (hv : v < 8) (h1 : bt y v = true) (h2 : ¬ bt x v = true) : ct x < ct y := by
  have hle : ∀ i, i < 8 → (bt x i).toNat ≤ (bt y i).toNat := by
    intro i hi
    cases hx : bt x i with
    | false => simp
    | true => rw [h i hi hx]; simp
  have hlt : (bt x v).toNat + 1 ≤ (bt y v).toNat := by rw [h1, Bool.eq_false_iff.mpr h2]; simp
  unfold ct
  have a0 := hle 0 (by omega); have a1 := hle 1 (by omega); have a2 := hle 2 (by omega); have a3 := hle 3 (by omega); have a4 := hle 4 (by omega); have a5 := hle 5 (by omega); have a6 := hle 6 (by omega); have a7 := hle 7 (by omega)
  have hc : v = 0 ∨ v = 1 ∨ v = 2 ∨ v = 3 ∨ v = 4 ∨ v = 5 ∨ v = 6 ∨ v = 7 := by omega
  rcases hc with rfl | rfl | rfl | rfl | rfl | rfl | rfl | rfl <;> omega
section MR
variable {now : Nat → Int32} {L nx : Nat} {E : List (Nat × Nat)}
/-- which edges count: all but some of those of one knot, by a set of their places -/
def alw (E : List (Nat × Nat)) (kn some' : Int32) (i : Nat) : Bool := match E[i]? with
  | some e => !decide (nI (e.2 / 10) = kn) || bt some' ((E.take i).countP (fun e => decide (nI (e.2 / 10) = kn)))
  | none => false
def alE (E : List (Nat × Nat)) (kn some' : Int32) (a b : Nat) : Prop := ∃ i e, E[i]? = some e ∧ alw E kn some' i = true ∧ e.2 / 10 = a ∧ e.2 % 10 = b
theorem j76 (K : Int32 → Int32 → Int32 → Option Int32) (wo kn set wh i : Int32) {a b : Nat} (ha : a < 32) (is : Bool) : mX11_reachedBy_J76 K wo kn set wh i (nI a) (nI b) is = K (if (is && bt set a) = true ∧ ¬ nI b = wo then set ||| mX5_only (nI b) else set) (wh + bI (decide (nI a = kn))) (i + 1) := by
  have g : ∀ z : Bool, mX11_reachedBy_J91 K wo set wh i (nI a) (nI b) is z = K (if (is && bt set a) = true ∧ ¬ nI b = wo then set ||| mX5_only (nI b) else set) (wh + bI z) (i + 1) := by
    intro z
    unfold mX11_reachedBy_J91
    rw [has_n _ ha, or0]
    cases is with
    | false => simp
    | true =>
      cases hb : bt set a with
      | false => simp
      | true =>
        by_cases hw : nI b = wo
        · simp [hw]
        · simp [hw, mX5_only]
  unfold mX11_reachedBy_J76
  by_cases h : nI a = kn
  · rw [if_pos h, g, decide_eq_true h]
  · rw [if_neg h, g, decide_eq_false h]
theorem bI_toNat (b : Bool) : bI b = nI b.toNat := by cases b <;> rfl
/-- one round -/
theorem round_n (h : mdR now L E nx) (hE : okE E) (K : Int32 → Int32 → Option Int32) (wo kn some' rd : Int32) : ∀ (l : List (Nat × Nat)) (k fuel : Nat) (set : Int32), E.drop k = l → k ≤ E.length → l.length < fuel → s8 set → ∃ set', mX11_reachedBy_L27 K now (nI L) wo kn some' rd fuel set (nI ((E.take k).countP (fun e => decide (nI (e.2 / 10) = kn)))) (nI k) = K set' (rd + 1) ∧ s8 set' ∧ (∀ v, bt set v = true → bt set' v = true) ∧ (∀ v, bt set' v = true → bt set v = true ∨ ∃ S : Nat → Prop, True) ∧ (∀ S : Nat → Prop, (∀ v, bt set v = true → S v) → (∀ x y, S x → alE E kn some' x y → ¬ nI y = wo → S y) → ∀ v, bt set' v = true → S v) ∧ (∀ i e, k ≤ i → E[i]? = some e → alw E kn some' i = true → bt set (e.2 / 10) = true → ¬ nI (e.2 % 10) = wo → bt set' (e.2 % 10) = true) := by
  intro l
  induction l with
  | nil =>
    intro k fuel set hd hke hf hs
    obtain ⟨m, rfl⟩ := fuel_s hf
    have h4 := h.2.2.2.1
    have hk := dropN hd
    refine ⟨set, ?_, hs, fun _ q => q, fun v q => Or.inl q, fun S q _ v hv => q v hv, fun i e hi he => ?_⟩
    · rw [mX11_reachedBy_L27, md_many h, Option.bind_some, if_pos ((nI_leI (by omega) (by omega)).mpr hk)]
    · have := (List.getElem?_eq_some_iff.mp he).1; omega
  | cons e l ih =>
    intro k fuel set hd hke hf hs
    obtain ⟨m, rfl⟩ := fuel_s hf
    have h4 := h.2.2.2.1
    obtain ⟨g1, g2, g3⟩ := dropC hd
    have hm := hE.2.1 e (List.mem_of_getElem? g2)
    have hcnt : (E.take k).countP (fun e => decide (nI (e.2 / 10) = kn)) ≤ k := Nat.le_trans List.countP_le_length (by rw [List.length_take]; omega)
    have htk : (E.take (k + 1)).countP (fun e => decide (nI (e.2 / 10) = kn)) = (E.take k).countP (fun e => decide (nI (e.2 / 10) = kn)) + (decide (nI (e.2 / 10) = kn)).toNat := by
      rw [List.take_add_one, g2, List.countP_append]
      congr 1
    have hal : alw E kn some' k = (!decide (nI (e.2 / 10) = kn) || bt some' ((E.take k).countP (fun e => decide (nI (e.2 / 10) = kn)))) := by rw [alw, g2]
    have hstep : ∀ rec : Int32 → Int32 → Int32 → Option Int32, (if nI (e.2 / 10) = kn then (if mX11_has some' (nI ((E.take k).countP (fun e => decide (nI (e.2 / 10) = kn)))) = true then mX11_reachedBy_J76 rec wo kn set (nI ((E.take k).countP (fun e => decide (nI (e.2 / 10) = kn)))) (nI k) (nI (e.2 / 10)) (nI (e.2 % 10)) true else mX11_reachedBy_J76 rec wo kn set (nI ((E.take k).countP (fun e => decide (nI (e.2 / 10) = kn)))) (nI k) (nI (e.2 / 10)) (nI (e.2 % 10)) false) else mX11_reachedBy_J76 rec wo kn set (nI ((E.take k).countP (fun e => decide (nI (e.2 / 10) = kn)))) (nI k) (nI (e.2 / 10)) (nI (e.2 % 10)) true) = rec (if (alw E kn some' k && bt set (e.2 / 10)) = true ∧ ¬ nI (e.2 % 10) = wo then set ||| mX5_only (nI (e.2 % 10)) else set) (nI ((E.take (k + 1)).countP (fun e => decide (nI (e.2 / 10) = kn)))) (nI (k + 1)) := by
      intro rec
      rw [has_n _ (by omega), hal, htk]
      have hw : ∀ is, mX11_reachedBy_J76 rec wo kn set (nI ((E.take k).countP (fun e => decide (nI (e.2 / 10) = kn)))) (nI k) (nI (e.2 / 10)) (nI (e.2 % 10)) is = rec (if (is && bt set (e.2 / 10)) = true ∧ ¬ nI (e.2 % 10) = wo then set ||| mX5_only (nI (e.2 % 10)) else set) (nI ((E.take k).countP (fun e => decide (nI (e.2 / 10) = kn)) + (decide (nI (e.2 / 10) = kn)).toNat)) (nI (k + 1)) := fun is => by
        rw [j76 _ _ _ _ _ _ (by omega), bI_toNat, nI_add, nI_1]
      rw [hw, hw]
      by_cases hk : nI (e.2 / 10) = kn
      · rw [if_pos hk, decide_eq_true hk]
        cases bt some' ((E.take k).countP (fun e => decide (nI (e.2 / 10) = kn))) <;> simp
      · rw [if_neg hk, decide_eq_false hk]; simp
    generalize hset : (if (alw E kn some' k && bt set (e.2 / 10)) = true ∧ ¬ nI (e.2 % 10) = wo then set ||| mX5_only (nI (e.2 % 10)) else set) = set1 at hstep
    have hs1 : s8 set1 := by
      rw [← hset]
      split
      · exact s8_or hs (s8_only (by omega))
      · exact hs
    have hmono : ∀ v, bt set v = true → bt set1 v = true := by
      intro v hv
      rw [← hset]
      split
      · rw [b_or, hv]; rfl
      · exact hv
    obtain ⟨set', b1, b2, b3, b4, b5, b6⟩ := ih (k + 1) m set1 g3 (by omega) (by simp only [List.length_cons] at hf; omega) hs1
    refine ⟨set', ?_, b2, fun v q => b3 v (hmono v q), fun v _ => Or.inr ⟨fun _ => True, trivial⟩, fun S h0 hc v hv => ?_, fun i x hi hx hax hbx hwx => ?_⟩
    · rw [mX11_reachedBy_L27, md_many h, Option.bind_some, if_neg (fun q => by have := (nI_leI (by omega) (by omega)).mp q; omega), md_from h hE g2, Option.bind_some, md_to h hE g2, Option.bind_some, hstep]
      exact b1
    · refine b5 S (fun x hx => ?_) hc v hv
      rw [← hset] at hx
      split at hx
      · rename_i hcond
        rw [b_or, Bool.or_eq_true] at hx
        rcases hx with q | q
        · exact h0 x q
        · rw [only_b (by omega), decide_eq_true_eq] at q
          rw [Bool.and_eq_true] at hcond
          exact hc (e.2 / 10) x (h0 _ hcond.1.2) ⟨k, e, g2, hcond.1.1, rfl, q.symm⟩ (by rw [q]; exact hcond.2)
      · exact h0 x hx
    · by_cases hik : i = k
      · subst hik
        rw [g2] at hx
        cases hx
        refine b3 _ ?_
        rw [← hset, if_pos ⟨by rw [hax, hbx]; rfl, hwx⟩, b_or, only_b (by omega)]
        simp
      · exact b6 i x (by omega) hx hax (hmono _ hbx) hwx
/-- reached, in the reference -/
theorem mreached_n (h : mdR now L E nx) (hE : okE E) (wo kn some' : Int32) : ∃ r, mX11_reachedBy now (nI L) wo kn some' = some r ∧ s8 r ∧ ∀ v, bt r v = true ↔ Rch (alE E kn some') (fun y => nI y = wo) v := by
  have key : ∀ (j rd fuel : Nat) (set : Int32), rd + j = 8 → j < fuel → s8 set → (∀ v, bt set v = true → Rch (alE E kn some') (fun y => nI y = wo) v) → (¬ nI 0 = wo → bt set 0 = true) → ((∀ v, Rch (alE E kn some') (fun y => nI y = wo) v → bt set v = true) ∨ rd + 1 ≤ ct set) → ∃ r, mX11_reachedBy_L14 now (nI L) wo kn some' fuel set (nI rd) = some r ∧ s8 r ∧ ∀ v, bt r v = true ↔ Rch (alE E kn some') (fun y => nI y = wo) v := by
    intro j
    induction j with
    | zero =>
      intro rd fuel set hj hf hs hsound h0 hor
      obtain ⟨m, rfl⟩ := fuel_s hf
      have hle := ct_le set
      refine ⟨set, by rw [mX11_reachedBy_L14, if_pos (le8_t (by omega) (by omega))], hs, fun v => ⟨hsound v, fun q => ?_⟩⟩
      rcases hor with z | z
      · exact z v q
      · omega
    | succ j ih =>
      intro rd fuel set hj hf hs hsound h0 hor
      obtain ⟨m, rfl⟩ := fuel_s hf
      have h4 := h.2.2.2.1
      obtain ⟨set', b1, b2, b3, -, b5, b6⟩ := round_n h hE (mX11_reachedBy_L14 now (nI L) wo kn some' m) wo kn some' (nI rd) E 0 kFU set rfl (Nat.zero_le _) (kFU_b (by omega)) hs
      rw [mX11_reachedBy_L14, if_neg (le8_f (by omega))]
      rw [List.take_zero, List.countP_nil, nI_1] at b1
      rw [show (0 : Int32) = nI 0 from rfl, b1]
      refine ih (rd + 1) m set' (by omega) (by omega) b2 (b5 _ hsound (fun x y hx e hy => hx.step e hy)) (fun q => b3 0 (h0 q)) ?_
      rcases hor with z | z
      · exact Or.inl fun v q => b3 v (z v q)
      · by_cases hnew : ∃ v, bt set' v = true ∧ ¬ bt set v = true
        · obtain ⟨v, v1, v2⟩ := hnew
          right
          have hv8 : v < 8 := by
            rcases Nat.lt_or_ge v 8 with q | q
            · exact q
            · rw [b2 v q] at v1; cases v1
          have := ct_lt (fun i _ q => b3 i q) hv8 v1 v2
          omega
        · left
          intro v q
          refine b3 v (q (fun v => bt set v = true) h0 fun x y hx e hy => ?_)
          obtain ⟨i, e', he, ha, rfl, rfl⟩ := e
          exact Classical.byContradiction fun w => hnew ⟨_, b6 i e' (Nat.zero_le _) he ha hx hy, w⟩
  unfold mX11_reachedBy
  by_cases hw : wo = 0
  · rw [if_pos hw]
    refine key 8 0 kFU 0 rfl (kFU_b (by omega)) s8_0 (fun v q => by rw [b_0] at q; cases q) (fun q => absurd hw.symm q) (Or.inl fun v q => ?_)
    exact absurd (q (fun _ => False) (fun z => z hw.symm) (fun _ _ hx _ _ => hx)) id
  · rw [if_neg hw]
    have hone : ∀ v, bt 1 v = true ↔ v = 0 := fun v => by rw [b_one, decide_eq_true_eq]
    refine key 8 0 kFU 1 rfl (kFU_b (by omega)) (fun i hi => by rw [b_one]; exact decide_eq_false (by omega)) (fun v q => ?_) (fun _ => by rw [hone]) (Or.inr (by decide))
    rw [(hone v).mp q]
    exact Rch.root fun z => hw z.symm
end MR
