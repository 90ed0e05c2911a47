/-! judge: both sides alike -/
theorem l_fig3 : ∀ d, d < 1000 → (lN d).toInt32 = nI d := by decide +kernel
theorem kne_t2 : ∀ m, m < 12 → kneL (lN (10 ^ m)) = true := by decide +kernel
theorem l_mod1000 {a : Nat} (ha : a < 2 ^ 63) : lN a - lN a / 1000 * 1000 = lN (a % 1000) := by
  have h1 : lN a / 1000 = lN (a / 1000) := l_div (b := 1000) ha (by omega)
  have h2 : lN (a / 1000) * 1000 = lN (a / 1000 * 1000) := l_mul _ 1000
  rw [h1, h2, l_sub (by omega)]
  congr 1; omega
section JD
variable {sz : Int32} {f : Nat → Int32} {E : List (Nat × Nat)} {now : Nat → Int32} {nx n : Nat}
theorem judge_l (h1 : 1 ≤ n) (h8 : n ≤ 8) {m : Nat} (hm4 : m ≤ 4) {N : Nat} (hN : N < 2 ^ 63) (ra rb : Int32) (rc : Nat → Int32) : ∀ (j v fuel nx : Nat) (T : List (Nat × Nat)) (sz : Int32) (f : Nat → Int32) (t1 t2 t3 wg : Int64) (t4 ms ps k0 : Int32) (mf pf now cv od wy td : Nat → Int32), v + j = m → j < fuel → edR sz f T → mdR now 1 T nx → okE T → nx + j < 1000000 → ∃ (r x1 x2 x3 : Int32) (x4 : Nat → Int32) (x5 x6 x7 : Int64) (x8 : Int32) (x9 : Int64) (x10 : Int32) (x11 : Nat → Int32) (x12 : Int32) (x13 : Nat → Int32) (k0' : Int32) (now' cv' od' wy' td' : Nat → Int32), mX10_judge_L44 (nI m) (lN N) (nI n, ra, rb, rc) fuel (nI v) (nI nx) sz f t1 t2 t3 t4 wg ms mf ps pf = some (r, x1, x2, x3, x4, x5, x6, x7, x8, x9, x10, x11, x12, x13) ∧ mX11_judge_L38 (nI n) (nI m) (lN N) fuel (nI v) k0 now cv od wy td = some (r, k0', now', cv', od', wy', td') ∧ ∀ i, i < 50 → now' i = now i := by
  intro j
  induction j with
  | zero =>
    intro v fuel nx T sz f t1 t2 t3 wg t4 ms ps k0 mf pf now cv od wy td hv hf h hd hT hnx
    obtain ⟨k, rfl⟩ := fuel_s hf
    rw [mX10_judge_L44, mX11_judge_L38, if_pos (nI_le_t (by omega) (by omega)), if_pos (nI_le_t (by omega) (by omega))]
    exact ⟨_, _, _, _, _, _, _, _, _, _, _, _, _, _, _, _, _, _, _, _, rfl, rfl, fun _ _ => rfl⟩
  | succ j ih =>
    intro v fuel nx T sz f t1 t2 t3 wg t4 ms ps k0 mf pf now cv od wy td hv hf h hd hT hnx
    obtain ⟨k, rfl⟩ := fuel_s hf
    have hvm : v < m := by omega
    have e0 : (3 : Int32) * nI v = nI (3 * v) := pk_mul 3 v
    have e1 : (3 : Int32) * nI m = nI (3 * m) := pk_mul 3 m
    have e2 : nI (3 * v) + 2 = nI (3 * v + 2) := nI_add (3 * v) 2
    have e3 : (3 : Int32) * (nI m - 1 - nI v) = nI (3 * (m - 1 - v)) := by
      rw [i_pred (by omega)]
      have : nI (m - 1) = nI (m - 1 - v) + nI v := by rw [nI_add]; congr 1; omega
      rw [this, Int32.add_sub_cancel]
      exact pk_mul 3 _
    have hdv : lN N / lN (10 ^ (3 * (m - 1 - v))) = lN (N / 10 ^ (3 * (m - 1 - v))) := l_div hN (ten_lt (by omega))
    have hlt : N / 10 ^ (3 * (m - 1 - v)) < 2 ^ 63 := Nat.lt_of_le_of_lt (Nat.div_le_self _ _) hN
    have p1 : N / 10 ^ (3 * m - 1 - 3 * v) = N / 10 ^ (3 * (m - 1 - v)) / 100 := by
      rw [Nat.div_div_eq_div_mul, show (100 : Nat) = 10 ^ 2 from rfl, ← Nat.pow_add]; congr 2; omega
    have p2 : N / 10 ^ (3 * m - 1 - (3 * v + 1)) = N / 10 ^ (3 * (m - 1 - v)) / 10 := by
      rw [Nat.div_div_eq_div_mul, show 10 ^ (3 * (m - 1 - v)) * 10 = 10 ^ (3 * (m - 1 - v) + 1) from rfl]; congr 2; omega
    have p3 : N / 10 ^ (3 * m - 1 - (3 * v + 2)) = N / 10 ^ (3 * (m - 1 - v)) := by
      congr 2; omega
    rw [mX10_judge_L44, if_neg (nI_le_f (by omega) (by omega)), e0, e1, nI_1, e2, fig_n hN (by omega) (by omega), Option.bind_some, fig_n hN (by omega) (by omega), Option.bind_some, fig_n hN (by omega) (by omega), Option.bind_some, p1, p2, p3]
    rw [mX11_judge_L38, if_neg (nI_le_f (by omega) (by omega)), e3, ten_n (by omega), Option.bind_some, gd_t (kne_t2 _ (by omega)), hdv, l_mod1000 hlt, l_fig3 _ (Nat.mod_lt _ (by decide))]
    generalize N / 10 ^ (3 * (m - 1 - v)) = Q at hlt ⊢
    have d1 : nI (Q % 1000) / 100 = nI (Q / 100 % 10) := by
      rw [show nI (Q % 1000) / 100 = nI (Q % 1000 / 100) from pk_div (d := 100) (by omega) (by omega) (by omega)]; congr 1; omega
    have d2 : nI (Q % 1000) / 10 - nI (Q % 1000) / 10 / 10 * 10 = nI (Q / 10 % 10) := by
      rw [div10 (by omega), mod10 (by omega)]; congr 1; omega
    have d3 : nI (Q % 1000) - nI (Q % 1000) / 10 * 10 = nI (Q % 10) := by
      rw [mod10 (by omega)]; congr 1; omega
    rw [d1, d2, d3]
    obtain ⟨r, nx', sz', f', g', a', b', c', wg', ms', mf', ps', pf', k0', now', cv', od', wy', td', T', ec, em, hr', hd', hT', hn', hs'⟩ := both_thing h hd hT (by omega) h1 h8 t1 t2 t3 wg t4 ms ps k0 mf pf cv od wy td (Nat.mod_lt (Q / 100) (show 10 > 0 by decide)) (Nat.mod_lt (Q / 10) (show 10 > 0 by decide)) (Nat.mod_lt Q (show 10 > 0 by decide))
    rw [em, Option.bind_some]
    dsimp only
    rw [ec, Option.bind_some]
    dsimp only
    by_cases hr : r = true
    · rw [if_pos hr, if_pos hr, nI_1]
      obtain ⟨r, x1, x2, x3, x4, x5, x6, x7, x8, x9, x10, x11, x12, x13, k0'', now'', cv'', od'', wy'', td'', q1, q2, q3⟩ := ih (v + 1) k nx' T' sz' f' g' a' b' wg' c' ms' ps' k0' mf' pf' now' cv' od' wy' td' (by omega) (by omega) hr' hd' hT' (by omega)
      exact ⟨_, _, _, _, _, _, _, _, _, _, _, _, _, _, _, _, _, _, _, _, q1, q2, fun i hi => (q3 i hi).trans (hs' i hi)⟩
    · rw [if_neg hr, if_neg hr]
      exact ⟨_, _, _, _, _, _, _, _, _, _, _, _, _, _, _, _, _, _, _, _, rfl, rfl, hs'⟩
theorem both_judge (h : edR sz f E) (hd : mdR now 0 E nx) (hE : okE E) (hnx : nx + 4 < 1000000) (h1 : 1 ≤ n) (h8 : n ≤ 8) (kn2 nx2 : Int32) (sz2 : Int32) (f2 : Nat → Int32) (t1 t2 t3 wg : Int64) (t4 ms ps k0 : Int32) (mf pf cv od wy td : Nat → Int32) (p1 : Int32) (p2 : Int64) : ∃ (r x1 x2 x3 : Int32) (x4 : Nat → Int32) (x5 x6 x7 : Int64) (x8 : Int32) (x9 : Int64) (x10 : Int32) (x11 : Nat → Int32) (x12 : Int32) (x13 : Nat → Int32) (k0' : Int32) (now' cv' od' wy' td' : Nat → Int32), mX10_judge (nI n) (nI nx) sz f kn2 nx2 sz2 f2 t1 t2 t3 t4 wg ms mf ps pf p1 p2 = some (r, x1, x2, x3, x4, x5, x6, x7, x8, x9, x10, x11, x12, x13) ∧ mX11_judge (nI n) k0 now cv od wy td p1 p2 = some (r, k0', now', cv', od', wy', td') ∧ mdR now' 0 E nx := by
  have e32 : (p1.toInt64).toInt = p1.toInt := Int32.toInt_toInt64 p1
  have z0 : (0 : Int64).toInt = 0 := rfl
  have z1 : (1 : Int64).toInt = 1 := rfl
  have z4 : (4 : Int64).toInt = 4 := rfl
  rw [mX10_judge, mX11_judge, in_n, e32, z1, z4]
  by_cases hlo : p1 < 1
  · have : p1.toInt < 1 := by rw [Int32.lt_iff_toInt_lt] at hlo; exact hlo
    rw [if_pos hlo, if_neg (by rw [decide_eq_true_eq]; omega)]
    exact ⟨_, _, _, _, _, _, _, _, _, _, _, _, _, _, _, _, _, _, _, _, rfl, rfl, hd⟩
  · have hlo' : ¬ p1.toInt < 1 := fun q => hlo (by rw [Int32.lt_iff_toInt_lt]; exact q)
    rw [if_neg hlo]
    by_cases hhi : p1 ≤ 4
    · have hhi' : p1.toInt ≤ 4 := by rw [Int32.le_iff_toInt_le] at hhi; exact hhi
      rw [if_pos hhi, if_pos (by rw [decide_eq_true_eq]; omega)]
      obtain ⟨m, hm, rfl⟩ : ∃ m : Nat, m < 2 ^ 31 ∧ p1 = nI m := nI_of (fun q => by rw [Int32.lt_iff_toInt_lt, Int32.toInt_zero] at q; omega)
      rw [nI_toInt hm] at hlo' hhi'
      have e1 : (3 : Int32) * nI m = nI (3 * m) := pk_mul 3 m
      have htp : 0 < 10 ^ (3 * m) := Nat.pow_pos (by decide)
      have htl : 10 ^ (3 * m) < 2 ^ 63 := ten_lt (by omega)
      have hs1 : lN (10 ^ (3 * m)) - 1 = lN (10 ^ (3 * m) - 1) := l_sub (b := 1) htp
      rw [e1, ten_n (by omega), Option.bind_some, hs1, in_n, z0, l_int (a := 10 ^ (3 * m) - 1) (by omega)]
      by_cases hneg : p2.toInt < 0
      · rw [fit_neg hneg (by omega), Option.bind_some, if_neg Bool.false_ne_true, if_neg (by rw [decide_eq_true_eq]; exact fun q => by omega)]
        exact ⟨_, _, _, _, _, _, _, _, _, _, _, _, _, _, _, _, _, _, _, _, rfl, rfl, hd⟩
      · obtain ⟨N, hN, rfl⟩ : ∃ N, N < 2 ^ 63 ∧ p2 = lN N := by
          refine ⟨p2.toInt.toNat, by have := p2.toInt_lt; omega, Int64.toInt_inj.mp ?_⟩
          rw [l_int (by have := p2.toInt_lt; omega)]; omega
        rw [l_int hN] at hneg ⊢
        rw [fit_n hN (by omega), Option.bind_some]
        by_cases hfit : N < 10 ^ (3 * m)
        · rw [decide_eq_true hfit, if_pos rfl, if_pos (by rw [decide_eq_true_eq]; omega)]
          obtain ⟨f', ec, hr'⟩ := ed_copy h kn2 (nI n) nx2 (nI nx) (sz2 := sz2) (f2 := f2)
          obtain ⟨now1, e6, hd1, hs1⟩ := md_lay hd
          obtain ⟨r, x1, x2, x3, x4, x5, x6, x7, x8, x9, x10, x11, x12, x13, k0', now', cv', od', wy', td', q1, q2, q3⟩ := judge_l h1 h8 (show m ≤ 4 by omega) hN (nI nx) (nI E.length) f' m 0 kFU nx E (nI E.length) f' t1 t2 t3 wg t4 ms ps k0 mf pf now1 cv od wy td (by omega) (kFU_b (by omega)) hr' hd1 hE (by omega)
          have q1' : mX10_judge_L44 (nI m) (lN N) (nI n, nI nx, nI E.length, f') kFU 0 (nI nx) (nI E.length) f' t1 t2 t3 t4 wg ms mf ps pf = _ := q1
          have q2' : mX11_judge_L38 (nI n) (nI m) (lN N) kFU 0 k0 now1 cv od wy td = _ := q2
          rw [ec, Option.bind_some, e6, Option.bind_some]
          exact ⟨_, _, _, _, _, _, _, _, _, _, _, _, _, _, _, _, _, _, _, _, q1', q2', hd.same fun i _ hi => (q3 i (by omega)).trans (hs1 i (by omega))⟩
        · rw [decide_eq_false hfit, if_neg Bool.false_ne_true, if_neg (by rw [decide_eq_true_eq]; exact fun q => by omega)]
          exact ⟨_, _, _, _, _, _, _, _, _, _, _, _, _, _, _, _, _, _, _, _, rfl, rfl, hd⟩
    · have hhi' : ¬ p1.toInt ≤ 4 := fun q => hhi (by rw [Int32.le_iff_toInt_le]; exact q)
      rw [if_neg hhi, if_neg (by rw [decide_eq_true_eq]; omega)]
      exact ⟨_, _, _, _, _, _, _, _, _, _, _, _, _, _, _, _, _, _, _, _, rfl, rfl, hd⟩
end JD
