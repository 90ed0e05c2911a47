/-! sets of knots as bits of an Int32, grids as bits of an Int64 -/
def gb (g : Int64) (i : Nat) : Bool := g.toBitVec.getLsbD i
theorem bt_nI (m i : Nat) : bt (nI m) i = (decide (i < 32) && m.testBit i) := by
  show (BitVec.ofNat 32 m).getLsbD i = _
  rw [BitVec.getLsbD_ofNat]
theorem gb_lN (m i : Nat) : gb (lN m) i = (decide (i < 64) && m.testBit i) := by
  show (BitVec.ofNat 64 m).getLsbD i = _
  rw [BitVec.getLsbD_ofNat]
theorem gb_or (x y : Int64) (i : Nat) : gb (x ||| y) i = (gb x i || gb y i) := by unfold gb; rw [Int64.toBitVec_or, BitVec.getLsbD_or]
theorem gb_and (x y : Int64) (i : Nat) : gb (x &&& y) i = (gb x i && gb y i) := by unfold gb; rw [Int64.toBitVec_and, BitVec.getLsbD_and]
theorem gb_xor (x y : Int64) (i : Nat) : gb (x ^^^ y) i = (gb x i ^^ gb y i) := by unfold gb; rw [Int64.toBitVec_xor, BitVec.getLsbD_xor]
theorem gb_m1 : ∀ i, i < 64 → gb (-1) i = true := by decide +kernel
theorem gb_0 (i : Nat) : gb 0 i = false := BitVec.getLsbD_zero
theorem gb_big {g : Int64} {i : Nat} (h : 64 ≤ i) : gb g i = false := BitVec.getLsbD_of_ge _ _ h
theorem gb_ext {x y : Int64} (h : ∀ i, i < 64 → gb x i = gb y i) : x = y := Int64.toBitVec_inj.mp (BitVec.eq_of_getLsbD_eq (fun i hi => h i hi))
/-- a set of knots: eight bits -/
def s8 (s : Int32) : Prop := ∀ i, 8 ≤ i → bt s i = false
theorem s8_nat {s : Int32} (h : s8 s) : ∃ m, m < 256 ∧ s = nI m := by
  obtain ⟨n, hn, rfl⟩ := wb_of32 s
  refine ⟨n % 256, by omega, b_ext fun i hi => ?_⟩
  rw [bt_nI, bt_nI, show (256 : Nat) = 2 ^ 8 from rfl, Nat.testBit_mod_two_pow]
  by_cases h8 : i < 8
  · simp [h8]
  · have := h i (by omega)
    rw [bt_nI] at this
    rw [this]
    simp [h8]
theorem s8_of {m : Nat} (h : m < 256) : s8 (nI m) := by
  intro i hi
  rw [bt_nI]
  have : m.testBit i = false := Nat.testBit_lt_two_pow (Nat.lt_of_lt_of_le h (Nat.pow_le_pow_right (n := 2) (by omega) hi))
  rw [this, Bool.and_false]
theorem s8_ext {x y : Int32} (hx : s8 x) (hy : s8 y) (h : ∀ i, i < 8 → bt x i = bt y i) : x = y := b_ext fun i _ => by
  by_cases h8 : i < 8
  · exact h i h8
  · rw [hx i (by omega), hy i (by omega)]
theorem s8_0 : s8 0 := fun i _ => b_0 i
theorem s8_or {x y : Int32} (hx : s8 x) (hy : s8 y) : s8 (x ||| y) := fun i hi => by rw [b_or, hx i hi, hy i hi]; rfl
theorem s8_andl {x : Int32} (hx : s8 x) (y : Int32) : s8 (x &&& y) := fun i hi => by rw [b_and, hx i hi]; rfl
theorem s8_andr {y : Int32} (x : Int32) (hy : s8 y) : s8 (x &&& y) := fun i hi => by rw [b_and, hy i hi, Bool.and_false]
theorem s8_xor {x y : Int32} (hx : s8 x) (hy : s8 y) : s8 (x ^^^ y) := fun i hi => by rw [b_xor, hx i hi, hy i hi]; rfl
theorem b_not (x : Int32) {i : Nat} (hi : i < 32) : bt (x ^^^ (-1)) i = !bt x i := by rw [b_xor, b_m1 i hi, Bool.xor_true]
theorem b_one (i : Nat) : bt 1 i = decide (i = 0) := by
  rw [show (1 : Int32) = nI 1 from rfl, bt_nI]
  by_cases h : i = 0
  · subst h; decide
  · rw [decide_eq_false h, show (1 : Nat) = 2 ^ 0 from rfl, Nat.testBit_two_pow]
    simp; omega
theorem only_b {k : Nat} (hk : k < 32) (i : Nat) : bt (mX5_only (nI k)) i = decide (i = k) := by
  rcases Nat.lt_or_ge i 32 with h | h
  · rw [mX5_only, b_shl k hk 1 h, b_one]
    by_cases e : i = k
    · subst e; simp
    · rw [decide_eq_false e]
      by_cases h2 : k ≤ i
      · rw [decide_eq_true h2, decide_eq_false (by omega)]; rfl
      · rw [decide_eq_false h2, Bool.false_and]
  · rw [b_big h, decide_eq_false (by omega)]
theorem s8_only {k : Nat} (hk : k < 8) : s8 (mX5_only (nI k)) := fun i hi => by rw [only_b (by omega)]; exact decide_eq_false (by omega)
theorem and1 (x : Int32) : (x &&& 1 = 1) ↔ bt x 0 = true := by
  constructor
  · intro h
    have := congrArg (fun z => bt z 0) h
    simp only [b_and, b_one] at this
    simpa using this
  · intro h
    refine b_ext fun i hi => ?_
    rw [b_and, b_one]
    by_cases e : i = 0
    · subst e; simp [h]
    · simp [e]
theorem isIn_n (s : Int32) {k : Nat} (hk : k < 8) : mX5_isIn s (nI k) = bt s k := by
  unfold mX5_isIn
  rw [if_neg (nI_pos (by omega)), if_neg (fun q => by have := (nI_leI (a := 8) (by omega) (by omega)).mp q; omega)]
  by_cases h : bt s k = true
  · rw [if_pos ((and1 _).mpr (by rw [b_ushr k (by omega)]; exact h)), h]
  · rw [if_neg (fun q => h (by have := (and1 _).mp q; rw [b_ushr k (by omega)] at this; exact this))]; exact (Bool.eq_false_iff.mpr h).symm
theorem isIn_big (s : Int32) {k : Nat} (hk : 8 ≤ k) (hk2 : k < 2 ^ 31) : mX5_isIn s (nI k) = false := by
  unfold mX5_isIn
  rw [if_neg (nI_pos (by omega)), if_pos (show (8 : Int32) ≤ nI k from (nI_leI (a := 8) (by omega) (by omega)).mpr hk)]
theorem isIn_neg (s : Int32) {x : Int32} (h : x < 0) : mX5_isIn s x = false := by
  unfold mX5_isIn
  rw [if_pos h]
theorem isIn_9 (s : Int32) : mX5_isIn s (-9) = false := isIn_neg s (by decide)
theorem nI_mul8 (k : Nat) : (8 : Int32) * nI k = nI (8 * k) := pk_mul 8 k
theorem line_b (g : Int64) {k : Nat} (hk : k < 8) (v : Nat) : bt (mX5_line g (nI k)) v = (decide (v < 8) && gb g (8 * k + v)) := by
  obtain ⟨n, hn, rfl⟩ := wb_of g
  rw [mX5_line, nI_mul8, wb_shr hn (by omega), lN_i, b_and, b_255, bt_nI, gb_lN, Nat.testBit_div_two_pow]
  by_cases h : v < 8
  · simp [h, show v < 32 by omega, show 8 * k + v < 64 by omega, show v + 8 * k < 64 by omega, Nat.add_comm]
  · simp [h]
theorem s8_line (g : Int64) {k : Nat} (hk : k < 8) : s8 (mX5_line g (nI k)) := fun i hi => by rw [line_b g hk, decide_eq_false (by omega)]; rfl
theorem flipped_b (g : Int64) {a b : Nat} (h : 8 * a + b < 64) {i : Nat} (hi : i < 64) : gb (mX5_flipped g (nI a) (nI b)) i = (gb g i ^^ decide (i = 8 * a + b)) := by
  rw [mX5_flipped, gb_xor, nI_mul8, nI_add, show (1 : Int64) = lN 1 from rfl, wb_shl 1 h, Nat.one_mul, gb_lN, Nat.testBit_two_pow]
  by_cases e : i = 8 * a + b
  · subst e; simp [hi]
  · simp [e, show ¬ (8 * a + b = i) from fun q => e q.symm]
theorem withLine_b (g : Int64) {k m : Nat} (hk : k < 8) (hm : m < 256) {i : Nat} (hi : i < 64) : gb (mX5_withLine g (nI k) (nI m)) i = if 8 * k ≤ i ∧ i < 8 * k + 8 then m.testBit (i - 8 * k) else gb g i := by
  rw [mX5_withLine, gb_or, gb_and, gb_xor, gb_m1 i hi, nI_mul8, nI_l (n := m) (by omega), show (255 : Int64) = lN 255 from rfl, wb_shl 255 (by omega), wb_shl m (by omega), gb_lN, gb_lN, Nat.mul_comm 255, Nat.mul_comm m, Nat.testBit_two_pow_mul, Nat.testBit_two_pow_mul, show (255 : Nat) = 2 ^ 8 - 1 from rfl, Nat.testBit_two_pow_sub_one]
  by_cases h1 : 8 * k ≤ i
  · by_cases h2 : i < 8 * k + 8
    · simp [h1, h2, hi, show i - 8 * k < 8 by omega]
    · have : m.testBit (i - 8 * k) = false := Nat.testBit_lt_two_pow (Nat.lt_of_lt_of_le (show m < 2 ^ 8 from hm) (Nat.pow_le_pow_right (n := 2) (by omega) (by omega)))
      simp [h2, hi, this, show ¬ (i - 8 * k < 8) by omega]
  · simp [h1]
theorem withLine_s (g : Int64) {k : Nat} {s : Int32} (hk : k < 8) (hs : s8 s) {i : Nat} (hi : i < 64) : gb (mX5_withLine g (nI k) s) i = if 8 * k ≤ i ∧ i < 8 * k + 8 then bt s (i - 8 * k) else gb g i := by
  obtain ⟨m, hm, rfl⟩ := s8_nat hs
  rw [withLine_b g hk hm hi, bt_nI]
  by_cases h : 8 * k ≤ i ∧ i < 8 * k + 8
  · rw [if_pos h, if_pos h, decide_eq_true (by omega), Bool.true_and]
  · rw [if_neg h, if_neg h]
set_option maxRecDepth 100000 in
theorem first_t : ∀ m, m < 256 → m ≠ 0 → ∃ k, k < 8 ∧ mX5_first (nI m) = nI k ∧ m.testBit k = true := by decide +kernel
theorem first_n {s : Int32} (h : s8 s) (h0 : ¬ s = 0) : ∃ k, k < 8 ∧ mX5_first s = nI k ∧ bt s k = true := by
  obtain ⟨m, hm, rfl⟩ := s8_nat h
  obtain ⟨k, hk, e, ht⟩ := first_t m hm (fun q => h0 (by rw [q]; rfl))
  exact ⟨k, hk, e, by rw [bt_nI, ht]; simp; omega⟩
/-- how many bits a set has -/
def pop8 (m : Nat) : Nat := (m.testBit 0).toNat + (m.testBit 1).toNat + (m.testBit 2).toNat + (m.testBit 3).toNat + (m.testBit 4).toNat + (m.testBit 5).toNat + (m.testBit 6).toNat + (m.testBit 7).toNat
def ct (s : Int32) : Nat := (bt s 0).toNat + (bt s 1).toNat + (bt s 2).toNat + (bt s 3).toNat + (bt s 4).toNat + (bt s 5).toNat + (bt s 6).toNat + (bt s 7).toNat
theorem ct_nI (m : Nat) : ct (nI m) = pop8 m := by
  unfold ct pop8
  simp [bt_nI]
theorem bitCount_t : ∀ m, m < 256 → mJ6_bitCount_0f7a4 (nI m) = nI (pop8 m) := by decide +kernel
theorem bitCount_n {s : Int32} (h : s8 s) : mJ6_bitCount_0f7a4 s = nI (ct s) := by
  obtain ⟨m, hm, rfl⟩ := s8_nat h
  rw [bitCount_t m hm, ct_nI]
theorem ct_le (s : Int32) : ct s ≤ 8 := by
  unfold ct
  have := fun b : Bool => Bool.toNat_le b
  have h0 := this (bt s 0); have h1 := this (bt s 1); have h2 := this (bt s 2); have h3 := this (bt s 3); have h4 := this (bt s 4); have h5 := this (bt s 5); have h6 := this (bt s 6); have h7 := this (bt s 7)
  omega
theorem s0_iff {s : Int32} (h : s8 s) : s = 0 ↔ ∀ i, i < 8 → bt s i = false := ⟨fun e i _ => by rw [e]; exact b_0 i, fun q => s8_ext h s8_0 (fun i hi => by rw [q i hi, b_0])⟩
