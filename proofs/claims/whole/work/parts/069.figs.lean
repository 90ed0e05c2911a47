/-! the figures of a long -/
theorem l_fig : ∀ d, d < 10 → (lN d).toInt32 = nI d := by decide +kernel
theorem l_mod10 {a : Nat} (ha : a < 2 ^ 63) : lN a - lN a / 10 * 10 = lN (a % 10) := by
  have h1 : lN a / 10 = lN (a / 10) := l_div (b := 10) ha (by decide)
  have h2 : lN (a / 10) * 10 = lN (a / 10 * 10) := l_mul (a / 10) 10
  rw [h1, h2, l_sub (Nat.div_mul_le_self a 10)]
  congr 1; omega
theorem fig_n {N n i : Nat} (hN : N < 2 ^ 63) (hn : n < 100) (hi : i < n) : mX4_at (lN N) (nI i) (nI n) = some (nI (N / 10 ^ (n - 1 - i) % 10)) := by
  have key : ∀ (j k fuel : Nat) (M : Nat), k + j = n → j < fuel → M < 2 ^ 63 → mX4_at_L8 (nI n) fuel (lN M) (nI k) = some (nI (M / 10 ^ j % 10)) := by
    intro j
    induction j with
    | zero =>
      intro k fuel M hk hf hM
      obtain ⟨m, rfl⟩ := fuel_s hf
      rw [mX4_at_L8, if_pos (nI_le_t (by omega) (by omega)), l_mod10 hM, l_fig _ (Nat.mod_lt _ (by decide)), Nat.pow_zero, Nat.div_one]
    | succ j ih =>
      intro k fuel M hk hf hM
      obtain ⟨m, rfl⟩ := fuel_s hf
      have h1 : lN M / 10 = lN (M / 10) := l_div (b := 10) hM (by decide)
      rw [mX4_at_L8, if_neg (nI_le_f (by omega) (by omega)), nI_1, h1, ih (k + 1) m (M / 10) (by omega) (by omega) (Nat.lt_of_le_of_lt (Nat.div_le_self _ _) hM), Nat.div_div_eq_div_mul, Nat.pow_succ, Nat.mul_comm 10]
  rw [mX4_at, nI_1, key (n - 1 - i) (i + 1) kFU N (by omega) (kFU_b (by omega)) hN]
theorem ten_n {n : Nat} (hn : n < 100) : mX11_tenTo (nI n) = some (lN (10 ^ n)) := by
  have key : ∀ (j k fuel : Nat), k + j = n → j < fuel → mX11_tenTo_L4 (nI n) fuel (lN (10 ^ k)) (nI k) = some (lN (10 ^ n)) := by
    intro j
    induction j with
    | zero =>
      intro k fuel hk hf
      obtain ⟨m, rfl⟩ := fuel_s hf
      have : k = n := by omega
      subst this
      rw [mX11_tenTo_L4, if_pos (nI_le_t (Nat.le_refl _) (by omega))]
    | succ j ih =>
      intro k fuel hk hf
      obtain ⟨m, rfl⟩ := fuel_s hf
      have h1 : lN (10 ^ k) * 10 = lN (10 ^ (k + 1)) := by rw [Nat.pow_succ]; exact l_mul (10 ^ k) 10
      rw [mX11_tenTo_L4, if_neg (nI_le_f (by omega) (by omega)), nI_1, h1]
      exact ih (k + 1) m (by omega) (by omega)
  exact key n 0 kFU (by omega) (kFU_b (by omega))
