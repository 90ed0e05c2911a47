/-! Long.bitCount -/
def lsr (x : Int64) (k : Int32) : Int64 := ((x : Int64).toUInt64 >>> (k.toInt64.toUInt64 &&& Int64.toUInt64 63)).toInt64
def lb1 (x : Int64) : Int64 := x - (lsr x 1 &&& 6148914691236517205)
def lb2 (x : Int64) : Int64 := (x &&& 3689348814741910323) + (lsr x 2 &&& 3689348814741910323)
def lb3 (x : Int64) : Int64 := (x + lsr x 4) &&& 1085102592571150095
def lb4 (x : Int64) : Int64 := x + lsr x 8
def lb5 (x : Int64) : Int64 := x + lsr x 16
def lb6 (x : Int64) : Int64 := x + lsr x 32
theorem lb_all (x : Int64) : mJ13_bitCount_95d88 x = (lb6 (lb5 (lb4 (lb3 (lb2 (lb1 x)))))).toInt32 &&& 127 := rfl
theorem and_s {a m : Nat} (ha : a < 256) (hm : m < 256) (b M : Nat) : (a + 256 * b) &&& (m + 256 * M) = (a &&& m) + 256 * (b &&& M) := by
  have hl : a &&& m < 2 ^ 8 := Nat.lt_of_le_of_lt Nat.and_le_left ha
  rw [Nat.add_comm a, Nat.add_comm m, Nat.add_comm (a &&& m)]
  apply Nat.eq_of_testBit_eq
  intro i
  rw [Nat.testBit_and, show 256 * b = 2 ^ 8 * b from rfl, show 256 * M = 2 ^ 8 * M from rfl, show 256 * (b &&& M) = 2 ^ 8 * (b &&& M) from rfl, Nat.testBit_two_pow_mul_add _ ha, Nat.testBit_two_pow_mul_add _ hm, Nat.testBit_two_pow_mul_add _ hl]
  split
  · rw [Nat.testBit_and]
  · rw [Nat.testBit_and]
def mk (c : Nat) : Nat → Nat | 0 => 0 | n + 1 => c + 256 * mk c n
def nn1 (n x : Nat) : Nat := x - (x / 2 &&& mk 85 n)
def nn2 (n x : Nat) : Nat := (x &&& mk 51 n) + (x / 4 &&& mk 51 n)
def nn3 (n x : Nat) : Nat := (x + x / 16) &&& mk 15 n
def ss1 (a : Nat) : Nat := a - (a / 2 &&& 85)
def ss2 (a : Nat) : Nat := (a &&& 51) + (a / 4 &&& 51)
def ss3 (a : Nat) : Nat := (a + a / 16) &&& 15
theorem and_le (a b : Nat) : a &&& b ≤ a := Nat.and_le_left
theorem t1 : ∀ a, a < 256 → ∀ c, c < 2 → (a / 2 + 128 * c) &&& 85 = a / 2 &&& 85 := by decide +kernel
theorem t2 : ∀ a, a < 256 → ∀ c, c < 4 → (a / 4 + 64 * c) &&& 51 = a / 4 &&& 51 := by decide +kernel
theorem t3 : ∀ a, a < 69 → ∀ c, c < 5 → (a + a / 16 + 16 * c) &&& 15 = (a + a / 16) &&& 15 := by decide +kernel
theorem t4 : ∀ a, a < 256 → ss1 a < 256 ∧ ss2 (ss1 a) < 69 ∧ ss2 (ss1 a) % 16 < 5 ∧ ss3 (ss2 (ss1 a)) = pop8 a := by decide +kernel
theorem r1 (n : Nat) {a : Nat} (ha : a < 256) (b : Nat) : nn1 (n + 1) (a + 256 * b) = ss1 a + 256 * nn1 n b := by
  have e : (a + 256 * b) / 2 = (a / 2 + 128 * (b % 2)) + 256 * (b / 2) := by omega
  have h1 := and_le (a / 2) 85
  have h2 := and_le (b / 2) (mk 85 n)
  show a + 256 * b - ((a + 256 * b) / 2 &&& (85 + 256 * mk 85 n)) = (a - (a / 2 &&& 85)) + 256 * (b - (b / 2 &&& mk 85 n))
  rw [e, and_s (by omega) (by decide), t1 a ha _ (by omega)]
  omega
theorem r2 (n : Nat) {a : Nat} (ha : a < 256) (b : Nat) : nn2 (n + 1) (a + 256 * b) = ss2 a + 256 * nn2 n b := by
  have e : (a + 256 * b) / 4 = (a / 4 + 64 * (b % 4)) + 256 * (b / 4) := by omega
  show (a + 256 * b &&& (51 + 256 * mk 51 n)) + ((a + 256 * b) / 4 &&& (51 + 256 * mk 51 n)) = ((a &&& 51) + (a / 4 &&& 51)) + 256 * ((b &&& mk 51 n) + (b / 4 &&& mk 51 n))
  rw [e, and_s ha (by decide), and_s (by omega) (by decide), t2 a ha _ (by omega)]
  omega
theorem r3 (n : Nat) {a : Nat} (ha : a < 69) {b : Nat} (hb : b % 16 < 5) : nn3 (n + 1) (a + 256 * b) = ss3 a + 256 * nn3 n b := by
  have e : a + 256 * b + (a + 256 * b) / 16 = (a + a / 16 + 16 * (b % 16)) + 256 * (b + b / 16) := by omega
  show (a + 256 * b + (a + 256 * b) / 16) &&& (15 + 256 * mk 15 n) = ((a + a / 16) &&& 15) + 256 * ((b + b / 16) &&& mk 15 n)
  rw [e, and_s (by omega) (by decide), t3 a ha _ (by omega)]
def bp : Nat → Nat → Nat | 0, _ => 0 | n + 1, x => pop8 (x % 256) + 256 * bp n (x / 256)
theorem bp_all : ∀ (n x : Nat), x < 256 ^ n → nn1 n x < 256 ^ n ∧ nn3 n (nn2 n (nn1 n x)) = bp n x ∧ nn2 n (nn1 n x) % 16 < 5 ∧ 2 * nn2 n (nn1 n x) < 256 ^ n
  | 0, x, h => by
    have : x = 0 := by omega
    subst this
    decide
  | n + 1, x, h => by
    rw [Nat.pow_succ] at h ⊢
    have hb : x / 256 < 256 ^ n := by omega
    have ha : x % 256 < 256 := Nat.mod_lt _ (by decide)
    obtain ⟨i1, i2, i3, i4⟩ := bp_all n (x / 256) hb
    obtain ⟨u1, u2, u3, u4⟩ := t4 (x % 256) ha
    have ex : x = x % 256 + 256 * (x / 256) := by omega
    have e1 : nn1 (n + 1) x = ss1 (x % 256) + 256 * nn1 n (x / 256) := by
      have := r1 n ha (x / 256)
      rwa [← ex] at this
    have e2 : nn2 (n + 1) (nn1 (n + 1) x) = ss2 (ss1 (x % 256)) + 256 * nn2 n (nn1 n (x / 256)) := by rw [e1, r2 n u1]
    have e3 : nn3 (n + 1) (nn2 (n + 1) (nn1 (n + 1) x)) = ss3 (ss2 (ss1 (x % 256))) + 256 * nn3 n (nn2 n (nn1 n (x / 256))) := by rw [e2, r3 n u2 i3]
    refine ⟨by rw [e1]; omega, ?_, by rw [e2]; omega, by rw [e2]; omega⟩
    rw [e3, u4, i2]; rfl
theorem pop8_le : ∀ m, m < 256 → pop8 m ≤ 8 := by decide +kernel
theorem l_add (a b : Nat) : lN a + lN b = lN (a + b) := (Int64.ofNat_add a b).symm
theorem lsr_n {x k : Nat} (hx : x < 2 ^ 64) (hk : k < 64) : lsr (lN x) (nI k) = lN (x / 2 ^ k) := wb_shr hx hk
theorem and127 (v : Nat) : nI v &&& 127 = nI (v % 128) := by
  refine b_ext fun i hi => ?_
  rw [b_and, show (127 : Int32) = nI (2 ^ 7 - 1) from rfl, bt_nI, bt_nI, bt_nI, show (128 : Nat) = 2 ^ 7 from rfl, Nat.testBit_mod_two_pow, Nat.testBit_two_pow_sub_one, decide_eq_true hi, Bool.true_and, Bool.true_and, Bool.true_and, Bool.and_comm]
/-- the bits of a long: those of its eight bytes -/
def by8 (x k : Nat) : Nat := pop8 (x / 256 ^ k % 256)
theorem bits_n {x : Nat} (hx : x < 2 ^ 64) : mJ13_bitCount_95d88 (lN x) = nI (by8 x 0 + by8 x 1 + by8 x 2 + by8 x 3 + by8 x 4 + by8 x 5 + by8 x 6 + by8 x 7) := by
  have h64 : (2 : Nat) ^ 64 = 256 ^ 8 := by decide
  obtain ⟨i1, i2, i3, i4⟩ := bp_all 8 x (by omega)
  have m85 : (6148914691236517205 : Int64) = lN (mk 85 8) := by decide
  have m51 : (3689348814741910323 : Int64) = lN (mk 51 8) := by decide
  have m15 : (1085102592571150095 : Int64) = lN (mk 15 8) := by decide
  have b85 : mk 85 8 < 2 ^ 64 := by decide
  have b51 : mk 51 8 < 2 ^ 64 := by decide
  have b15 : mk 15 8 < 2 ^ 64 := by decide
  have s1 : lb1 (lN x) = lN (nn1 8 x) := by
    have e : lsr (lN x) 1 = lN (x / 2) := lsr_n (k := 1) hx (by decide)
    have h2 := and_le (x / 2) (mk 85 8)
    rw [lb1, e, m85, wb_and (by omega) b85, l_sub (by omega)]; rfl
  have s2 : lb2 (lN (nn1 8 x)) = lN (nn2 8 (nn1 8 x)) := by
    have e : lsr (lN (nn1 8 x)) 2 = lN (nn1 8 x / 4) := lsr_n (k := 2) (by omega) (by decide)
    rw [lb2, e, m51, wb_and (by omega) b51, wb_and (by omega) b51, l_add]; rfl
  have s3 : lb3 (lN (nn2 8 (nn1 8 x))) = lN (bp 8 x) := by
    have e : lsr (lN (nn2 8 (nn1 8 x))) 4 = lN (nn2 8 (nn1 8 x) / 16) := lsr_n (k := 4) (by omega) (by decide)
    rw [lb3, e, m15, l_add, wb_and (by omega) b15, ← i2]; rfl
  have q : ∀ k, by8 x k ≤ 8 := fun k => pop8_le _ (Nat.mod_lt _ (by decide))
  have hd : ∀ k, x / 256 ^ k / 256 = x / 256 ^ (k + 1) := fun k => by rw [Nat.div_div_eq_div_mul, Nat.pow_succ]
  have ebp : bp 8 x = by8 x 0 + 256 * (by8 x 1 + 256 * (by8 x 2 + 256 * (by8 x 3 + 256 * (by8 x 4 + 256 * (by8 x 5 + 256 * (by8 x 6 + 256 * (by8 x 7 + 256 * 0))))))) := by
    unfold by8
    rw [← hd 6, ← hd 5, ← hd 4, ← hd 3, ← hd 2, ← hd 1, ← hd 0, Nat.pow_zero, Nat.div_one]
    rfl
  have q0 := q 0; have q1 := q 1; have q2 := q 2; have q3 := q 3; have q4 := q 4; have q5 := q 5; have q6 := q 6; have q7 := q 7
  rw [lb_all, s1, s2, s3, ebp]
  generalize by8 x 0 = c0 at *
  generalize by8 x 1 = c1 at *
  generalize by8 x 2 = c2 at *
  generalize by8 x 3 = c3 at *
  generalize by8 x 4 = c4 at *
  generalize by8 x 5 = c5 at *
  generalize by8 x 6 = c6 at *
  generalize by8 x 7 = c7 at *
  clear q ebp hd s1 s2 s3 i1 i2 i3 i4 m85 m51 m15 b85 b51 b15 h64 hx
  have g4 : ∀ w, w < 2 ^ 63 → lb4 (lN w) = lN (w + w / 256) := fun w hw => by
    have e : lsr (lN w) 8 = lN (w / 256) := lsr_n (k := 8) (by omega) (by decide)
    rw [lb4, e, l_add]
  have g5 : ∀ w, w < 2 ^ 63 → lb5 (lN w) = lN (w + w / 65536) := fun w hw => by
    have e : lsr (lN w) 16 = lN (w / 65536) := lsr_n (k := 16) (by omega) (by decide)
    rw [lb5, e, l_add]
  have g6 : ∀ w, w < 2 ^ 63 → lb6 (lN w) = lN (w + w / 4294967296) := fun w hw => by
    have e : lsr (lN w) 32 = lN (w / 4294967296) := lsr_n (k := 32) (by omega) (by decide)
    rw [lb6, e, l_add]
  rw [g4 _ (by omega)]
  have w4 : ∀ A, A = c0 + 256 * (c1 + 256 * (c2 + 256 * (c3 + 256 * (c4 + 256 * (c5 + 256 * (c6 + 256 * (c7 + 256 * 0))))))) → A + A / 256 = (c0 + c1) + 256 * ((c1 + c2) + 256 * ((c2 + c3) + 256 * ((c3 + c4) + 256 * ((c4 + c5) + 256 * ((c5 + c6) + 256 * ((c6 + c7) + 256 * c7)))))) := fun A hA => by omega
  rw [w4 _ rfl, g5 _ (by omega)]
  have w5 : ∀ A, A = (c0 + c1) + 256 * ((c1 + c2) + 256 * ((c2 + c3) + 256 * ((c3 + c4) + 256 * ((c4 + c5) + 256 * ((c5 + c6) + 256 * ((c6 + c7) + 256 * c7)))))) → A + A / 65536 = (c0 + c1 + c2 + c3) + 256 * ((c1 + c2 + c3 + c4) + 256 * ((c2 + c3 + c4 + c5) + 256 * ((c3 + c4 + c5 + c6) + 256 * ((c4 + c5 + c6 + c7) + 256 * ((c5 + c6 + c7) + 256 * ((c6 + c7) + 256 * c7)))))) := fun A hA => by omega
  rw [w5 _ rfl, g6 _ (by omega), l_32, and127]
  have w6 : ∀ A, A = (c0 + c1 + c2 + c3) + 256 * ((c1 + c2 + c3 + c4) + 256 * ((c2 + c3 + c4 + c5) + 256 * ((c3 + c4 + c5 + c6) + 256 * ((c4 + c5 + c6 + c7) + 256 * ((c5 + c6 + c7) + 256 * ((c6 + c7) + 256 * c7)))))) → A / 4294967296 = (c4 + c5 + c6 + c7) + 256 * ((c5 + c6 + c7) + 256 * ((c6 + c7) + 256 * c7)) := fun A hA => by omega
  rw [w6 _ rfl]
  congr 1
  generalize (c1 + c2 + c3 + c4) + 256 * ((c2 + c3 + c4 + c5) + 256 * ((c3 + c4 + c5 + c6) + 256 * ((c4 + c5 + c6 + c7) + 256 * ((c5 + c6 + c7) + 256 * ((c6 + c7) + 256 * c7))))) = X
  generalize (c5 + c6 + c7) + 256 * ((c6 + c7) + 256 * c7) = Y
  omega
theorem bits64 (g : Int64) : mJ13_bitCount_95d88 g = nI (ct (mX5_line g (nI 0)) + ct (mX5_line g (nI 1)) + ct (mX5_line g (nI 2)) + ct (mX5_line g (nI 3)) + ct (mX5_line g (nI 4)) + ct (mX5_line g (nI 5)) + ct (mX5_line g (nI 6)) + ct (mX5_line g (nI 7))) := by
  obtain ⟨x, hx, rfl⟩ := wb_of g
  have e : ∀ k, k < 8 → ct (mX5_line (lN x) (nI k)) = by8 x k := by
    intro k hk
    have : mX5_line (lN x) (nI k) = nI (x / 256 ^ k % 256) := by
      refine s8_ext (s8_line _ hk) (s8_of (Nat.mod_lt _ (by decide))) fun v hv => ?_
      rw [line_b _ hk, gb_lN, bt_nI, show (256 : Nat) ^ k = 2 ^ (8 * k) from by rw [Nat.pow_mul], show (256 : Nat) = 2 ^ 8 from rfl, Nat.testBit_mod_two_pow, Nat.testBit_div_two_pow, decide_eq_true hv, decide_eq_true (show v < 32 by omega), decide_eq_true (show 8 * k + v < 64 by omega), Nat.add_comm v]
    rw [this, ct_nI]; rfl
  rw [bits_n hx, e 0 (by decide), e 1 (by decide), e 2 (by decide), e 3 (by decide), e 4 (by decide), e 5 (by decide), e 6 (by decide), e 7 (by decide)]
