/-! shares and chances: numbers -/
def fac : Nat → Nat | 0 => 1 | n + 1 => fac n * (n + 1)
theorem fact_c {n : Nat} (hn : n < 12) : mX1_factorial (nI n) = some (nI (fac n)) := by
  have key : ∀ (j k fuel : Nat), k + j = n → j < fuel → mX1_factorial_L4 (nI n) fuel (nI (fac k)) (nI (k + 1)) = some (nI (fac n)) := by
    intro j
    induction j with
    | zero =>
      intro k fuel hk hf
      obtain ⟨m, rfl⟩ := fuel_s hf
      rw [mX1_factorial_L4, if_pos ((nI_ltI (by omega) (by omega)).mpr (by omega)), show k = n by omega]
    | succ j ih =>
      intro k fuel hk hf
      obtain ⟨m, rfl⟩ := fuel_s hf
      rw [mX1_factorial_L4, if_neg (fun q => by have := (nI_ltI (by omega) (by omega)).mp q; omega), nI_1, show nI (fac k) * nI (k + 1) = nI (fac (k + 1)) from pk_mul _ _]
      exact ih (k + 1) m (by omega) (by omega)
  rcases Nat.eq_zero_or_pos n with rfl | h
  · rw [mX1_factorial]; rfl
  · exact key (n - 1) 1 kFU (by omega) (kFU_b (by omega))
theorem fact_m {n : Nat} (hn : n < 12) : mX11_factorial (nI n) = some (nI (fac n)) := by
  have key : ∀ (j k fuel : Nat), k + j = n → j < fuel → mX11_factorial_L4 (nI n) fuel (nI (fac k)) (nI (k + 1)) = some (nI (fac n)) := by
    intro j
    induction j with
    | zero =>
      intro k fuel hk hf
      obtain ⟨m, rfl⟩ := fuel_s hf
      rw [mX11_factorial_L4, if_pos ((nI_ltI (by omega) (by omega)).mpr (by omega)), show k = n by omega]
    | succ j ih =>
      intro k fuel hk hf
      obtain ⟨m, rfl⟩ := fuel_s hf
      rw [mX11_factorial_L4, if_neg (fun q => by have := (nI_ltI (by omega) (by omega)).mp q; omega), nI_1, show nI (fac k) * nI (k + 1) = nI (fac (k + 1)) from pk_mul _ _]
      exact ih (k + 1) m (by omega) (by omega)
  rcases Nat.eq_zero_or_pos n with rfl | h
  · rw [mX11_factorial]; rfl
  · exact key (n - 1) 1 kFU (by omega) (kFU_b (by omega))
theorem pow_c (b : Nat) {n : Nat} (hn : n < 100) : mX1_power (nI b) (nI n) = some (nI (b ^ n)) := by
  have key : ∀ (j k fuel : Nat), k + j = n → j < fuel → mX1_power_L4 (nI b) (nI n) fuel (nI (b ^ k)) (nI k) = some (nI (b ^ n)) := by
    intro j
    induction j with
    | zero =>
      intro k fuel hk hf
      obtain ⟨m, rfl⟩ := fuel_s hf
      rw [mX1_power_L4, if_pos (nI_le_t (by omega) (by omega)), show k = n by omega]
    | succ j ih =>
      intro k fuel hk hf
      obtain ⟨m, rfl⟩ := fuel_s hf
      rw [mX1_power_L4, if_neg (nI_le_f (by omega) (by omega)), nI_1, show nI (b ^ k) * nI b = nI (b ^ (k + 1)) from pk_mul _ _]
      exact ih (k + 1) m (by omega) (by omega)
  exact key n 0 kFU (by omega) (kFU_b (by omega))
theorem half_mod {v w : Nat} (hw : 0 < w) (h : w < v) : 2 * (v % w) < v := by
  have h1 := Nat.mod_lt v hw
  have h2 : v % w = (v - w) % w := Nat.mod_eq_sub_mod (by omega)
  have h3 := Nat.mod_le (v - w) w
  omega
theorem le64_f {c : Nat} (h : c < 64) : ¬ (64 : Int32) ≤ nI c := fun q => by have := (nI_leI (a := 64) (by omega) (by omega)).mp q; omega
theorem gdiv_0 (fuel : Nat) {u c : Nat} (hc : c ≤ 64) : mX1_greatestDivisor_L7 (fuel + 1) (nI u) 0 (nI c) = some (nI u) := by
  rw [mX1_greatestDivisor_L7, if_pos rfl, ite_self]
theorem gdiv_l : ∀ (j c fuel u v : Nat), v < 2 ^ j → c + 2 * j ≤ 62 → 2 * j + 2 < fuel → u < 2 ^ 31 → v < 2 ^ 31 → mX1_greatestDivisor_L7 fuel (nI u) (nI v) (nI c) = some (nI (Nat.gcd u v)) := by
  intro j
  induction j with
  | zero =>
    intro c fuel u v hv hc hf hu hv2
    obtain ⟨m, rfl⟩ := fuel_s (j := 0) (show 0 < fuel by omega)
    have : v = 0 := by omega
    subst this
    rw [Nat.gcd_zero_right]
    exact gdiv_0 m (by omega)
  | succ j ih =>
    intro c fuel u v hv hc hf hu hv2
    obtain ⟨m, rfl⟩ := fuel_s (j := 0) (show 0 < fuel by omega)
    obtain ⟨m, rfl⟩ := fuel_s (j := 0) (show 0 < m by omega)
    rcases Nat.eq_zero_or_pos v with rfl | hv0
    · rw [Nat.gcd_zero_right]; exact gdiv_0 _ (by omega)
    · have hne : ¬ nI v = 0 := nI_ne0 hv0 hv2
      have e1 : nI u - nI u / nI v * nI v = nI (u % v) := pk_rem hu hv0 hv2
      rw [mX1_greatestDivisor_L7, if_neg (le64_f (by omega)), if_neg hne, e1, nI_1, Nat.gcd_comm, Nat.gcd_rec]
      have hw := Nat.mod_lt u hv0
      rcases Nat.eq_zero_or_pos (u % v) with hz | hw0
      · rw [hz, Nat.gcd_zero_left]
        exact gdiv_0 m (by omega)
      · have hne' : ¬ nI (u % v) = 0 := nI_ne0 hw0 (by omega)
        have e2 : nI v - nI v / nI (u % v) * nI (u % v) = nI (v % (u % v)) := pk_rem hv2 hw0 (by omega)
        have hh := half_mod hw0 hw
        rw [mX1_greatestDivisor_L7, if_neg (le64_f (by omega)), if_neg hne', e2, nI_1, ih (c + 1 + 1) m (u % v) (v % (u % v)) (by omega) (by omega) (by omega) (by omega) (by omega)]
        rw [Nat.gcd_comm (u % v) (v % (u % v)), ← Nat.gcd_rec]
theorem gdiv_n {u v : Nat} (hu : u < 2 ^ 31) (hv : v < 2 ^ 30) : mX1_greatestDivisor (nI u) (nI v) = some (nI (Nat.gcd u v)) :=
  gdiv_l 30 0 kFU u v hv (by omega) (kFU_b (by omega)) hu (by omega)
theorem comm_l : ∀ (fuel u v : Nat), v < fuel → u < 2 ^ 31 → v < 2 ^ 31 → mX11_common_L13 fuel (nI u) (nI v) = some (nI (Nat.gcd u v)) := by
  intro fuel
  induction fuel with
  | zero => intro u v h; exact absurd h (Nat.not_lt_zero _)
  | succ m ih =>
    intro u v h hu hv
    rcases Nat.eq_zero_or_pos v with rfl | hv0
    · rw [mX11_common_L13, if_pos (show nI 0 = 0 from rfl), Nat.gcd_zero_right]
    · have e1 : nI u - nI u / nI v * nI v = nI (u % v) := pk_rem hu hv0 hv
      have hw := Nat.mod_lt u hv0
      rw [mX11_common_L13, if_neg (nI_ne0 hv0 hv), e1, ih v (u % v) (by omega) hv (by omega), Nat.gcd_comm u v, Nat.gcd_rec v u, Nat.gcd_comm]
theorem comm_n {u v : Nat} (hu : u < 2 ^ 31) (hv : v < 100000000) : mX11_common (nI u) (nI v) = some (nI (Nat.gcd u v)) := by
  rw [mX11_common, if_pos (show (0 : Int32) ≤ nI u from (nI_leI (a := 0) (by omega) hu).mpr (Nat.zero_le _))]
  exact comm_l kFU u v (kFU_b hv) hu (by omega)
/-- in least terms: both sides -/
theorem least_c {u v : Nat} (hu : u < 2 ^ 31) (h0 : 0 < v) (hv : v < 100000000) (b : Bool) : mX1_inLeastTerms (nI u) (nI v) b = some (if b = true then nI (u / Nat.gcd u v) else nI (v / Nat.gcd u v)) := by
  have hg : 0 < Nat.gcd u v := Nat.gcd_pos_of_pos_right u h0
  have hg2 : Nat.gcd u v ≤ v := Nat.le_of_dvd h0 (Nat.gcd_dvd_right u v)
  rw [mX1_inLeastTerms, gdiv_n hu (by omega), Option.bind_some]
  cases b with
  | true => rw [if_pos rfl, if_pos rfl, mX1_inLeastTerms_J15, if_neg (nI_ne0 hg (by omega)), pk_div hu hg (by omega)]
  | false => rw [if_neg Bool.false_ne_true, if_neg Bool.false_ne_true, mX1_inLeastTerms_J15, if_neg (nI_ne0 hg (by omega)), pk_div (by omega) hg (by omega)]
/-! sums over sets -/
def sN (F : Int32 → Nat) : List Int32 → Nat | [] => 0 | x :: l => F x + sN F l
theorem sN_perm (F : Int32 → Nat) {l l' : List Int32} (h : l.Perm l') : sN F l = sN F l' := by
  induction h with
  | nil => rfl
  | cons x _ ih => show F x + _ = F x + _; rw [ih]
  | swap x y l => show F y + (F x + _) = F x + (F y + _); omega
  | trans _ _ h1 h2 => exact h1.trans h2
theorem sN_app (F : Int32 → Nat) (l l' : List Int32) : sN F (l ++ l') = sN F l + sN F l' := by
  induction l with
  | nil => show _ = 0 + _; rw [Nat.zero_add]; rfl
  | cons x l ih => show F x + sN F (l ++ l') = F x + sN F l + sN F l'; rw [ih]; omega
theorem sN_le (F : Int32 → Nat) (b : Nat) : ∀ l : List Int32, (∀ x, x ∈ l → F x ≤ b) → sN F l ≤ b * l.length
  | [], _ => Nat.zero_le _
  | x :: l, h => by
    have h1 := sN_le F b l fun y hy => h y (List.mem_cons_of_mem _ hy)
    have h2 := h x List.mem_cons_self
    show F x + sN F l ≤ b * (l.length + 1)
    rw [Nat.mul_add]; omega
/-- the set of the things at the places told -/
def phi : List Nat → Nat → Int32
  | [], _ => 0
  | t :: l, m => (if m.testBit 0 = true then mX5_only (nI t) else 0) ||| phi l (m / 2)
theorem phi_b : ∀ (l : List Nat) (m t : Nat), (∀ x, x ∈ l → x < 8) → (bt (phi l m) t = true ↔ ∃ i, l[i]? = some t ∧ m.testBit i = true)
  | [], m, t, _ => by
    show bt 0 t = true ↔ _
    rw [b_0]
    exact ⟨fun h => (by cases h), fun ⟨i, h, _⟩ => (by simp at h)⟩
  | x :: l, m, t, h8 => by
    have hx := h8 x List.mem_cons_self
    show bt ((if m.testBit 0 = true then mX5_only (nI x) else 0) ||| phi l (m / 2)) t = true ↔ _
    rw [b_or, Bool.or_eq_true, phi_b l (m / 2) t fun y hy => h8 y (List.mem_cons_of_mem _ hy)]
    constructor
    · rintro (h | ⟨i, h1, h2⟩)
      · by_cases h0 : m.testBit 0 = true
        · rw [if_pos h0, only_b (by omega), decide_eq_true_eq] at h
          exact ⟨0, by rw [h]; rfl, h0⟩
        · rw [if_neg h0, b_0] at h; cases h
      · exact ⟨i + 1, h1, by rw [Nat.testBit_succ]; exact h2⟩
    · rintro ⟨i, h1, h2⟩
      cases i with
      | zero =>
        left
        have : x = t := by simpa using h1
        rw [if_pos h2, only_b (by omega), decide_eq_true this.symm]
      | succ i =>
        right
        exact ⟨i, by simpa using h1, by rw [Nat.testBit_succ] at h2; exact h2⟩
def mOf : List Nat → Int32 → Nat | [], _ => 0 | t :: l, s => (bt s t).toNat + 2 * mOf l s
theorem mOf_lt : ∀ (l : List Nat) (s : Int32), mOf l s < 2 ^ l.length
  | [], s => Nat.zero_lt_one
  | t :: l, s => by
    have h := mOf_lt l s
    have h2 : (bt s t).toNat ≤ 1 := Bool.toNat_le _
    show (bt s t).toNat + 2 * mOf l s < 2 ^ (l.length + 1)
    rw [Nat.pow_succ]; omega
theorem mOf_b : ∀ (l : List Nat) (s : Int32) (i : Nat), (mOf l s).testBit i = match l[i]? with | some t => bt s t | none => false
  | [], s, i => by show (0 : Nat).testBit i = _; rw [Nat.zero_testBit]; rfl
  | t :: l, s, 0 => by
    show ((bt s t).toNat + 2 * mOf l s).testBit 0 = bt s t
    rw [Nat.testBit_zero]
    cases bt s t with
    | true => exact decide_eq_true (by show (1 + 2 * mOf l s) % 2 = 1; omega)
    | false => exact decide_eq_false (by show ¬ (0 + 2 * mOf l s) % 2 = 1; omega)
  | t :: l, s, i + 1 => by
    show ((bt s t).toNat + 2 * mOf l s).testBit (i + 1) = match l[i]? with | some t => bt s t | none => false
    rw [Nat.testBit_succ, ← mOf_b l s i]
    congr 1
    have h2 : (bt s t).toNat ≤ 1 := Bool.toNat_le _
    omega
