/-! longs that are not negative -/
theorem l_int {a : Nat} (ha : a < 2 ^ 63) : (lN a).toInt = (a : Int) := Int64.toInt_ofNat_of_lt ha
theorem l_div {a b : Nat} (ha : a < 2 ^ 63) (hb : b < 2 ^ 63) : lN a / lN b = lN (a / b) := by
  apply Int64.toInt_inj.mp
  have hd : a / b < 2 ^ 63 := Nat.lt_of_le_of_lt (Nat.div_le_self _ _) ha
  rw [Int64.toInt_div_of_ne_right _ _ (fun q => by
    have := congrArg Int64.toInt q
    rw [l_int hb] at this
    have h2 : (-1 : Int64).toInt = -1 := by decide
    omega), l_int ha, l_int hb, l_int hd]
  exact (Int.ofNat_tdiv a b).symm
theorem l_mul (a b : Nat) : lN a * lN b = lN (a * b) := (Int64.ofNat_mul a b).symm
theorem l_sub {a b : Nat} (h : b ≤ a) : lN a - lN b = lN (a - b) := by
  apply wb_inj
  rw [Int64.toBitVec_sub, wb_tb, wb_tb, wb_tb]
  apply BitVec.eq_of_toNat_eq
  rw [BitVec.toNat_sub, BitVec.toNat_ofNat, BitVec.toNat_ofNat, BitVec.toNat_ofNat]
  omega
theorem lgc_eq (x y : Int64) : lg_cmp x y = 0 ↔ x.toInt = y.toInt := by
  have h1 := lgc_lt x y
  have h2 := lgc_gt x y
  constructor
  · intro h
    rw [h] at h1 h2
    have a : ¬ x.toInt < y.toInt := fun q => absurd (h1.mpr q) (by decide)
    have b : ¬ y.toInt < x.toInt := fun q => absurd (h2.mpr q) (by decide)
    omega
  · intro h
    have a : ¬ lg_cmp x y < 0 := fun q => by have := h1.mp q; omega
    have b : ¬ 0 < lg_cmp x y := fun q => by have := h2.mp q; omega
    exact Int32.le_antisymm (Int32.not_lt.mp b) (Int32.not_lt.mp a)
theorem fit_loop (p0 : Int64) (n : Nat) (hn : n < 2 ^ 31) : ∀ (j k fuel : Nat) (x : Int64), k + j = n → j < fuel → ∃ y, mX4_fit_L5 p0 (nI n) fuel x (nI k) = mX4_fit_J23 p0 y ∧ ∀ M, x = lN M → M < 2 ^ 63 → y = lN (M / 10 ^ j) := by
  intro j
  induction j with
  | zero =>
    intro k fuel x hk hf
    obtain ⟨m, rfl⟩ := fuel_s hf
    rw [mX4_fit_L5, if_pos (nI_le_t (by omega) (by omega))]
    exact ⟨x, rfl, fun M e _ => by rw [Nat.pow_zero, Nat.div_one, e]⟩
  | succ j ih =>
    intro k fuel x hk hf
    obtain ⟨m, rfl⟩ := fuel_s hf
    rw [mX4_fit_L5, if_neg (nI_le_f (by omega) (by omega)), nI_1]
    obtain ⟨y, e, h⟩ := ih (k + 1) m (x / 10) (by omega) (by omega)
    refine ⟨y, e, fun M eM hM => ?_⟩
    rw [h (M / 10) (by rw [eM]; exact l_div (b := 10) hM (by decide)) (Nat.lt_of_le_of_lt (Nat.div_le_self _ _) hM), Nat.div_div_eq_div_mul, Nat.pow_succ, Nat.mul_comm]
theorem fit_n {N n : Nat} (hN : N < 2 ^ 63) (hn : n < 100) : mX4_fit (lN N) (nI n) = some (decide (N < 10 ^ n)) := by
  obtain ⟨y, e, h⟩ := fit_loop (lN N) n (by omega) n 0 kFU (lN N) (by omega) (kFU_b (by omega))
  have hy := h N rfl hN
  have hd : N / 10 ^ n < 2 ^ 63 := Nat.lt_of_le_of_lt (Nat.div_le_self _ _) hN
  have e' : mX4_fit_L5 (lN N) (nI n) kFU (lN N) 0 = _ := e
  have z0 : (0 : Int64).toInt = 0 := rfl
  rw [mX4_fit, e', mX4_fit_J23, if_neg (fun q => by have := (lgc_lt _ _).mp q; rw [l_int hN, z0] at this; omega), hy]
  have hpos : 0 < 10 ^ n := Nat.pow_pos (by decide)
  by_cases hz : N < 10 ^ n
  · rw [if_pos ((lgc_eq _ _).mpr (by rw [l_int hd, z0, Nat.div_eq_of_lt hz]; rfl)), decide_eq_true hz]
  · rw [if_neg (fun q => by
      have := (lgc_eq _ _).mp q
      rw [l_int hd, z0] at this
      have h1 : 0 < N / 10 ^ n := Nat.div_pos (Nat.le_of_not_lt hz) hpos
      omega), decide_eq_false hz]
theorem fit_neg {p : Int64} (hp : p.toInt < 0) {n : Nat} (hn : n < 100) : mX4_fit p (nI n) = some false := by
  obtain ⟨y, e, -⟩ := fit_loop p n (by omega) n 0 kFU p (by omega) (kFU_b (by omega))
  have e' : mX4_fit_L5 p (nI n) kFU p 0 = _ := e
  rw [mX4_fit, e', mX4_fit_J23, if_pos ((lgc_lt _ _).mpr hp)]
