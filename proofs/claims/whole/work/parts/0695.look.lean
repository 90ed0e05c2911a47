/-! look: both sides alike -/
def dgs (N n k : Nat) : List Nat := (List.range k).map (fun i => N / 10 ^ (n - 1 - i) % 10)
theorem dgs_s (N n k : Nat) : dgs N n (k + 1) = dgs N n k ++ [N / 10 ^ (n - 1 - k) % 10] := by
  unfold dgs; rw [List.range_succ, List.map_append]; rfl
theorem dgs_len (N n k : Nat) : (dgs N n k).length = k := by unfold dgs; rw [List.length_map, List.length_range]
theorem dgs_10 (N n k : Nat) : ∀ z, z ∈ dgs N n k → z < 10 := by
  intro z hz
  obtain ⟨i, -, rfl⟩ := List.mem_map.mp hz
  exact Nat.mod_lt _ (by decide)
theorem shR.push {sh : Nat → Int32} {T : List Nat} {x k : Nat} (h : shR sh T) (hk : k = T.length) : shR (upd sh k (nI x)) (T ++ [x]) := by
  subst hk
  intro i z hz
  by_cases hi : i < T.length
  · rw [List.getElem?_append_left hi] at hz
    rw [upd_n (by omega)]; exact h i z hz
  · rw [List.getElem?_append_right (by omega)] at hz
    have hi2 : i = T.length := by
      rcases Nat.lt_or_ge (i - T.length) 1 with q | q
      · omega
      · rw [List.getElem?_eq_none (by rw [List.length_singleton]; omega)] at hz; cases hz
    subst hi2
    rw [Nat.sub_self, List.getElem?_cons_zero, Option.some.injEq] at hz
    rw [upd_s, hz]
theorem kne_t : ∀ m, m < 9 → kneL (lN (10 ^ m)) = true := by decide +kernel
theorem ten_lt {m : Nat} (h : m < 19) : 10 ^ m < 2 ^ 63 := Nat.lt_of_le_of_lt (Nat.pow_le_pow_right (by decide) (show m ≤ 18 by omega)) (by decide)
section LK
variable {sz : Int32} {f : Nat → Int32} {E : List (Nat × Nat)} {now : Nat → Int32} {nx : Nat}
theorem look_c {g cvd cvr : Int64} {rch : Int32} (h : cvR g cvd cvr rch) {N : Nat} (hN : N < 2 ^ 63) : ∀ (j k fuel : Nat) (ts : Int32) (tf : Nat → Int32), k + j = ct rch → j < fuel → rowR 8 ts tf ((dgs N (ct rch) k).map nI) → ∃ ts' tf', mX10_look_L33 (lN N) (g, cvd, cvr, rch) fuel (nI k) ts tf = some (fwR (gE g) (dgs N (ct rch) (ct rch)), g, cvd, cvr, rch, ts', tf') := by
  have hc8 := ct_le rch
  have hcount : mX2_reachedCount rch = nI (ct rch) := by rw [mX2_reachedCount, bitCount_n h.1]
  intro j
  induction j with
  | zero =>
    intro k fuel ts tf hk hf hr
    obtain ⟨m, rfl⟩ := fuel_s hf
    have hkk : k = ct rch := by omega
    subst hkk
    rw [mX10_look_L33]
    dsimp only
    rw [hcount, if_pos (nI_le_t (Nat.le_refl _) (by omega)), mX10_look_J59]
    dsimp only
    rw [cmis_n h hr (dgs_10 _ _ _) (by rw [dgs_len]; exact hc8), Option.bind_some]
    unfold fwR
    cases h1 : fw1 (gE g) [] (dgs N (ct rch) (ct rch)) with
    | some i =>
      have hi := (fw_lt (E := gE g) (dgs N (ct rch) (ct rch)) [] i).1 h1
      rw [dgs_len, List.length_nil, Nat.zero_add] at hi
      dsimp only
      rw [if_neg (by rw [i_ne9 (by omega)]; exact id)]
      exact ⟨ts, tf, rfl⟩
    | none =>
      have hok := (fw1_none (E := gE g) _ []).mp h1
      dsimp only
      rw [if_pos rfl, cnot_n h hr (by rw [dgs_len]; exact hc8) hok (dgs_len _ _ _), Option.bind_some]
      exact ⟨ts, tf, rfl⟩
  | succ j ih =>
    intro k fuel ts tf hk hf hr
    obtain ⟨m, rfl⟩ := fuel_s hf
    rw [mX10_look_L33]
    dsimp only
    obtain ⟨tf2, e2, r2⟩ := add_n hr (by rw [List.length_map, dgs_len]; omega) (nI (N / 10 ^ (ct rch - 1 - k) % 10))
    rw [hcount, if_neg (nI_le_f (by omega) (by omega)), fig_n hN (by omega) (by omega), Option.bind_some, e2, Option.bind_some, nI_1]
    exact ih (k + 1) m _ tf2 (by omega) (by omega) (by rw [dgs_s, List.map_append]; exact r2)
theorem look_m (hd : mdR now 0 E nx) (hE : okE E) {rch : Int32} {cov : Nat → Int32} (hc : mcR cov rch (pE (ePr E))) (hR : ∀ d, RA (pE (ePr E)) d → d < 8) {N : Nat} (hN : N < 2 ^ 63) : ∀ (j k fuel : Nat) (sh : Nat → Int32), k + j = ct rch → j < fuel → shR sh (dgs N (ct rch) k) → ∃ sh', mX11_look_L33 now (lN N) (rch, cov) (nI (ct rch)) fuel (nI k) sh = some (fwR (pE (ePr E)) (dgs N (ct rch) (ct rch)), rch, cov, sh') := by
  have hc8 := ct_le rch
  intro j
  induction j with
  | zero =>
    intro k fuel sh hk hf hs
    obtain ⟨m, rfl⟩ := fuel_s hf
    have hkk : k = ct rch := by omega
    subst hkk
    have hw := mfirst_n hd hE hc hR hs (dgs_10 _ _ _) (by rw [dgs_len]; exact hc8)
    rw [dgs_len] at hw
    rw [mX11_look_L33, if_pos (nI_le_t (Nat.le_refl _) (by omega))]
    dsimp only
    rw [hw, Option.bind_some]
    exact ⟨sh, rfl⟩
  | succ j ih =>
    intro k fuel sh hk hf hs
    obtain ⟨m, rfl⟩ := fuel_s hf
    have e1 : nI (ct rch) - 1 - nI k = nI (ct rch - 1 - k) := by
      rw [i_pred (by omega)]
      have : nI (ct rch - 1) = nI (ct rch - 1 - k) + nI k := by rw [nI_add]; congr 1; omega
      rw [this]; exact Int32.add_sub_cancel _ _
    have hdv : lN N / lN (10 ^ (ct rch - 1 - k)) = lN (N / 10 ^ (ct rch - 1 - k)) := l_div hN (ten_lt (by omega))
    have hlt : N / 10 ^ (ct rch - 1 - k) < 2 ^ 63 := Nat.lt_of_le_of_lt (Nat.div_le_self _ _) hN
    rw [mX11_look_L33, if_neg (nI_le_f (by omega) (by omega)), e1, ten_n (by omega), Option.bind_some, gd_t (kne_t _ (by omega)), gd_n (by omega) (by omega), hdv, l_mod10 hlt, l_fig _ (Nat.mod_lt _ (by decide)), i_cl (a := k) (by omega), nI_1]
    exact ih (k + 1) m _ (by omega) (by omega) (by rw [dgs_s]; exact hs.push (dgs_len _ _ _).symm)
theorem both_look (h : edR sz f E) (hd : mdR now 0 E nx) (hE : okE E) (k1 k2 k3 : Int64) (k4 ts k0 : Int32) (tf cv0 sh : Nat → Int32) (p : Int64) : ∃ r g cvd cvr rch ts' tf' cov sh', mX10_look sz f k1 k2 k3 k4 ts tf p = some (r, g, cvd, cvr, rch, ts', tf') ∧ mX11_look k0 now cv0 sh p = some (r, rch, cov, sh') := by
  obtain ⟨g, cvd, cvr, rch, cov, e1, e2, e3, hb⟩ := both_learn (L := 0) h hd hE k1 k2 k3 k4 k0 cv0
  have e3' : mX11_findCovers k0 now cv0 0 = some (rch, cov) := e3
  obtain ⟨hcv, hg, hmc⟩ := hb
  have hR : ∀ d, RA (pE (ePr E)) d → d < 8 := fun d hd => by rw [← hg] at hd; exact RA8 hd
  have hc8 := ct_le rch
  have hcount : mX2_reachedCount rch = nI (ct rch) := by rw [mX2_reachedCount, bitCount_n hcv.1]
  have htp : 0 < 10 ^ ct rch := Nat.pow_pos (by decide)
  have htl : 10 ^ ct rch < 2 ^ 63 := ten_lt (by omega)
  have hs1 : lN (10 ^ ct rch) - 1 = lN (10 ^ ct rch - 1) := l_sub (b := 1) htp
  have z0 : (0 : Int64).toInt = 0 := rfl
  rw [mX10_look, e1, Option.bind_some, mX11_look, e3', Option.bind_some]
  dsimp only
  rw [hcount, ones_n, Option.bind_some, ten_n (by omega), Option.bind_some, hs1, in_n, z0, l_int (a := 10 ^ ct rch - 1) (by omega)]
  by_cases hneg : p.toInt < 0
  · rw [fit_neg hneg (by omega), Option.bind_some, if_neg Bool.false_ne_true, if_neg (by rw [decide_eq_false (show ¬ (0 ≤ p.toInt ∧ p.toInt ≤ ((10 ^ ct rch - 1 : Nat) : Int)) from fun q => by omega)]; decide)]
    exact ⟨-2, g, cvd, cvr, rch, ts, tf, cov, sh, rfl, rfl⟩
  · obtain ⟨N, hN, rfl⟩ : ∃ N, N < 2 ^ 63 ∧ p = lN N := by
      refine ⟨p.toInt.toNat, by have := p.toInt_lt; omega, Int64.toInt_inj.mp ?_⟩
      rw [l_int (by have := p.toInt_lt; omega)]; omega
    rw [l_int hN] at hneg ⊢
    rw [fit_n hN (by omega), Option.bind_some]
    by_cases hfit : N < 10 ^ ct rch
    · rw [decide_eq_true hfit, if_pos rfl, if_pos (decide_eq_true (show (0 : Int) ≤ (N : Int) ∧ (N : Int) ≤ ((10 ^ ct rch - 1 : Nat) : Int) by omega))]
      obtain ⟨ts', tf', q1⟩ := look_c hcv hN (ct rch) 0 kFU 0 tf (by omega) (kFU_b (by omega)) (rowR.nil (by omega))
      obtain ⟨sh', q2⟩ := look_m hd hE hmc hR hN (ct rch) 0 kFU sh (by omega) (kFU_b (by omega)) (fun i x hx => by simp [dgs] at hx)
      rw [hg] at q1
      exact ⟨_, g, cvd, cvr, rch, ts', tf', cov, sh', q1, q2⟩
    · rw [decide_eq_false hfit, if_neg Bool.false_ne_true, if_neg (by rw [decide_eq_false (show ¬ ((0 : Int) ≤ (N : Int) ∧ (N : Int) ≤ ((10 ^ ct rch - 1 : Nat) : Int)) from fun q => by omega)]; decide)]
      exact ⟨-2, g, cvd, cvr, rch, ts, tf, cov, sh, rfl, rfl⟩
end LK
