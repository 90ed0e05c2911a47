/-! sets of a mask, two ways -/
theorem nI_subN {a b : Nat} (h : b ≤ a) : nI a - nI b = nI (a - b) := by
  have : nI a = nI (a - b) + nI b := by rw [nI_add]; congr 1; omega
  rw [this]; exact Int32.add_sub_cancel _ _
def pc : Nat → Nat → Nat | 0, _ => 0 | j + 1, m => (m.testBit 0).toNat + pc j (m / 2)
theorem pc_0 : ∀ j, pc j 0 = 0
  | 0 => rfl
  | j + 1 => by show (Nat.testBit 0 0).toNat + pc j (0 / 2) = 0; rw [Nat.zero_div, pc_0 j]; rfl
theorem pc_ext : ∀ (r k m : Nat), m < 2 ^ r → pc (r + k) m = pc r m
  | 0, k, m, h => by
    have : m = 0 := by omega
    subst this
    rw [pc_0]; rfl
  | r + 1, k, m, h => by
    rw [show r + 1 + k = (r + k) + 1 from by omega]
    show _ + pc (r + k) (m / 2) = _ + pc r (m / 2)
    rw [pc_ext r k (m / 2) (by rw [Nat.pow_succ] at h; omega)]
theorem pc_le : ∀ (j m : Nat), pc j m ≤ j
  | 0, m => Nat.le_refl _
  | j + 1, m => by
    have := pc_le j (m / 2)
    have h2 : (m.testBit 0).toNat ≤ 1 := Bool.toNat_le _
    show (m.testBit 0).toNat + pc j (m / 2) ≤ j + 1
    omega
theorem pc_8 : ∀ m, m < 256 → ct (nI m) = pc 8 m := by decide +kernel
theorem pc_ct {m r : Nat} (h : m < 2 ^ r) (hr : r ≤ 8) : ct (nI m) = pc r m := by
  have h8 : m < 256 := Nat.lt_of_lt_of_le h (Nat.pow_le_pow_right (n := 2) (by decide) hr)
  rw [pc_8 m h8, show (8 : Nat) = r + (8 - r) from by omega, pc_ext r _ m h]
theorem ct_only : ∀ t, t < 8 → ct (mX5_only (nI t)) = 1 := by decide +kernel
theorem ct_phi : ∀ (l : List Nat) (m : Nat), (∀ x, x ∈ l → x < 8) → l.Nodup → ct (phi l m) = pc l.length m
  | [], m, _, _ => by show ct 0 = 0; exact ct_zero
  | t :: l, m, h8, hn => by
    have ht := h8 t List.mem_cons_self
    have h8' : ∀ x, x ∈ l → x < 8 := fun y hy => h8 y (List.mem_cons_of_mem _ hy)
    obtain ⟨hn1, hn2⟩ := List.nodup_cons.mp hn
    show ct ((if m.testBit 0 = true then mX5_only (nI t) else 0) ||| phi l (m / 2)) = (m.testBit 0).toNat + pc l.length (m / 2)
    rw [ct_or, ct_phi l (m / 2) h8' hn2]
    · by_cases h0 : m.testBit 0 = true
      · rw [if_pos h0, ct_only t ht, h0]; rfl
      · rw [if_neg h0, ct_zero, Bool.eq_false_iff.mpr h0]; rfl
    · intro i _ q
      by_cases h0 : m.testBit 0 = true
      · rw [if_pos h0, only_b (by omega), decide_eq_true_eq] at q
        subst q
        rw [Bool.eq_false_iff]
        intro z
        obtain ⟨j, hj, -⟩ := (phi_b l _ _ h8').mp z
        exact hn1 (List.mem_of_getElem? hj)
      · rw [if_neg h0, b_0] at q; cases q
/-- the sets within a mask -/
def LC (M : Nat) (k j : Nat) : List Int32 := ((List.range' k j).filter (fun s => decide (nI s &&& (nI M ^^^ (-1)) = 0))).map nI
theorem sub_iff {M s : Nat} (hM : M < 256) (hs : s < 256) : nI s &&& (nI M ^^^ (-1)) = 0 ↔ ∀ i, i < 8 → bt (nI s) i = true → bt (nI M) i = true := by
  rw [s0_iff (s8_andl (s8_of hs) _)]
  constructor
  · intro h i hi q
    have := h i hi
    rw [b_and, b_not _ (by omega), q, Bool.true_and, Bool.not_eq_false'] at this
    exact this
  · intro h i hi
    rw [b_and, b_not _ (by omega)]
    cases q : bt (nI s) i with
    | false => rfl
    | true => rw [h i hi q]; rfl
theorem sub_ord {M s : Nat} (hM : M < 256) (hs : s < 256) (h : ∀ i, i < 8 → bt (nI s) i = true → bt (nI M) i = true) : s ≤ M := by
  have e : s = s &&& M := by
    apply Nat.eq_of_testBit_eq
    intro i
    rw [Nat.testBit_and]
    by_cases hi : i < 8
    · have := h i hi
      rw [bt_nI, bt_nI, decide_eq_true (show i < 32 by omega), Bool.true_and, Bool.true_and] at this
      cases q : s.testBit i with
      | false => rfl
      | true => rw [this q]; rfl
    · have h1 : (256 : Nat) ≤ 2 ^ i := by
        have := Nat.pow_le_pow_right (n := 2) (by decide) (show 8 ≤ i by omega)
        omega
      rw [Nat.testBit_lt_two_pow (show s < 2 ^ i by omega)]; rfl
  rw [e]; exact Nat.and_le_right
theorem LC_mem {M : Nat} (hM : M < 256) {x : Int32} : x ∈ LC M 0 (M + 1) ↔ s8 x ∧ ∀ i, i < 8 → bt x i = true → bt (nI M) i = true := by
  unfold LC
  rw [List.mem_map]
  constructor
  · rintro ⟨s, hs, rfl⟩
    rw [List.mem_filter, List.mem_range', decide_eq_true_eq] at hs
    obtain ⟨⟨i, hi, rfl⟩, h2⟩ := hs
    have : 0 + 1 * i < 256 := by omega
    exact ⟨s8_of this, (sub_iff hM this).mp h2⟩
  · rintro ⟨h8, h⟩
    obtain ⟨s, hs, rfl⟩ := s8_nat h8
    have := sub_ord hM hs h
    refine ⟨s, ?_, rfl⟩
    rw [List.mem_filter, List.mem_range', decide_eq_true_eq]
    exact ⟨⟨s, by omega, by omega⟩, (sub_iff hM hs).mpr h⟩
theorem nd_map {f : Nat → Int32} {l : List Nat} (hn : l.Nodup) (hf : ∀ x y, x ∈ l → y ∈ l → f x = f y → x = y) : (l.map f).Nodup := by
  rw [List.nodup_iff_pairwise_ne] at hn ⊢
  rw [List.pairwise_map]
  exact hn.imp_of_mem fun {x y} hx hy hne q => hne (hf x y hx hy q)
theorem nd_fil {P : Nat → Bool} {l : List Nat} (hn : l.Nodup) : (l.filter P).Nodup := List.Nodup.sublist List.filter_sublist hn
theorem LC_nd {M : Nat} (hM : M < 256) : (LC M 0 (M + 1)).Nodup := by
  refine nd_map (nd_fil List.nodup_range') fun x y hx hy q => ?_
  rw [List.mem_filter, List.mem_range'] at hx hy
  obtain ⟨⟨i, hi, rfl⟩, -⟩ := hx
  obtain ⟨⟨j, hj, rfl⟩, -⟩ := hy
  have h1 : 0 + 1 * i < 2 ^ 31 := by omega
  have h2 : 0 + 1 * j < 2 ^ 31 := by omega
  exact (nI_eq h1 h2).mp q
theorem phi_inj {l : List Nat} (h8 : ∀ x, x ∈ l → x < 8) (hn : l.Nodup) {m m' : Nat} (hm : m < 2 ^ l.length) (hm' : m' < 2 ^ l.length) (h : phi l m = phi l m') : m = m' := by
  have one : ∀ {m m' : Nat}, phi l m = phi l m' → ∀ i, i < l.length → m.testBit i = true → m'.testBit i = true := by
    intro m m' h i hi q
    have hb : bt (phi l m) (l[i]'hi) = true := (phi_b _ _ _ h8).mpr ⟨i, List.getElem?_eq_getElem hi, q⟩
    rw [h] at hb
    obtain ⟨j, hj, q'⟩ := (phi_b _ _ _ h8).mp hb
    obtain ⟨hj1, hj2⟩ := List.getElem?_eq_some_iff.mp hj
    have : i = j := by
      have := (List.getElem_inj (h₀ := hj1) (h₁ := hi) hn).mp hj2
      exact this.symm
    rw [this]; exact q'
  apply Nat.eq_of_testBit_eq
  intro i
  by_cases hi : i < l.length
  · rw [Bool.eq_iff_iff]
    exact ⟨one h i hi, one h.symm i hi⟩
  · have h1 : 2 ^ l.length ≤ 2 ^ i := Nat.pow_le_pow_right (by decide) (by omega)
    rw [Nat.testBit_lt_two_pow (by omega), Nat.testBit_lt_two_pow (by omega)]
theorem phi_mOf {l : List Nat} (h8 : ∀ x, x ∈ l → x < 8) {s : Int32} (hs : s8 s) (h : ∀ t, bt s t = true → t ∈ l) : phi l (mOf l s) = s := by
  refine b_ext fun t _ => ?_
  rw [Bool.eq_iff_iff, phi_b _ _ _ h8]
  constructor
  · rintro ⟨i, h1, h2⟩
    rw [mOf_b, h1] at h2; exact h2
  · intro q
    obtain ⟨i, hi⟩ := List.getElem?_of_mem (h t q)
    exact ⟨i, hi, by rw [mOf_b, hi]; exact q⟩
theorem LC_perm {l : List Nat} (h8 : ∀ x, x ∈ l → x < 8) (hn : l.Nodup) {M : Nat} (hM : M < 256) {P : Nat → Bool} (hP : ∀ m, m < 2 ^ l.length → (P m = true ↔ ∀ i, i < 8 → bt (phi l m) i = true → bt (nI M) i = true)) (hl : ∀ t, bt (nI M) t = true → t ∈ l) (hs : ∀ m, s8 (phi l m)) : (((List.range' 0 (2 ^ l.length)).filter P).map (phi l)).Perm (LC M 0 (M + 1)) := by
  have inr : ∀ m, m ∈ List.range' 0 (2 ^ l.length) ↔ m < 2 ^ l.length := by
    intro m
    rw [List.mem_range']
    exact ⟨fun ⟨i, h1, h2⟩ => by omega, fun h => ⟨m, h, by omega⟩⟩
  refine (List.perm_ext_iff_of_nodup (nd_map (nd_fil List.nodup_range') fun x y hx hy q => ?_) (LC_nd hM)).mpr fun x => ?_
  · rw [List.mem_filter, inr] at hx hy
    exact phi_inj h8 hn hx.1 hy.1 q
  · rw [LC_mem hM, List.mem_map]
    constructor
    · rintro ⟨m, hm, rfl⟩
      rw [List.mem_filter, inr] at hm
      exact ⟨hs m, (hP m hm.1).mp hm.2⟩
    · rintro ⟨hx8, hx⟩
      have hsub : ∀ t, bt x t = true → t ∈ l := fun t ht => hl t (hx t (by
        rcases Nat.lt_or_ge t 8 with h | h
        · exact h
        · rw [hx8 t h] at ht; cases ht) ht)
      have e := phi_mOf h8 hx8 hsub
      refine ⟨mOf l x, ?_, e⟩
      rw [List.mem_filter, inr]
      exact ⟨mOf_lt l x, (hP _ (mOf_lt l x)).mpr (by rw [e]; exact hx)⟩
theorem LC_len (M k j : Nat) : (LC M k j).length ≤ j := by
  unfold LC
  rw [List.length_map]
  exact Nat.le_trans (List.length_filter_le ..) (Nat.le_of_eq List.length_range')
/-- one knot's line: as many as its edges -/
theorem pc_mOf : ∀ (l : List Nat) (s : Int32), (∀ t, t ∈ l → bt s t = true) → pc l.length (mOf l s) = l.length
  | [], s, _ => rfl
  | t :: l, s, h => by
    have h1 := h t List.mem_cons_self
    have ih := pc_mOf l s fun x hx => h x (List.mem_cons_of_mem _ hx)
    show (((bt s t).toNat + 2 * mOf l s).testBit 0).toNat + pc l.length (((bt s t).toNat + 2 * mOf l s) / 2) = l.length + 1
    rw [h1, Nat.testBit_zero]
    have e1 : (true.toNat + 2 * mOf l s) % 2 = 1 := by show (1 + _) % 2 = 1; omega
    have e2 : (true.toNat + 2 * mOf l s) / 2 = mOf l s := by show (1 + _) / 2 = _; omega
    rw [e1, e2, ih, decide_eq_true rfl]
    show 1 + l.length = _
    omega
theorem ct_all {l : List Nat} (h8 : ∀ x, x ∈ l → x < 8) (hn : l.Nodup) {s : Int32} (hs : s8 s) (h : ∀ t, bt s t = true ↔ t ∈ l) : ct s = l.length := by
  have e := phi_mOf h8 hs fun t => (h t).mp
  rw [← e, ct_phi l _ h8 hn, pc_mOf l s fun t ht => (h t).mpr ht]
