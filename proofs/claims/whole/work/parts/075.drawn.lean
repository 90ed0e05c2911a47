/-! drawn: both sides alike -/
theorem l_32 (m : Nat) : (lN m).toInt32 = nI m := by
  apply Int32.toBitVec_inj.mp
  rw [Int64.toBitVec_toInt32, wb_tb]
  show BitVec.signExtend 32 _ = BitVec.ofNat 32 m
  rw [BitVec.signExtend_eq_setWidth_of_le _ (by decide)]
  apply BitVec.eq_of_toNat_eq
  simp
theorem seed_q (x : Int64) : ∃ q, q < 2 ^ 31 ∧ (((x : Int64).toUInt64 >>> ((33 : Int32).toInt64.toUInt64 &&& Int64.toUInt64 63)).toInt64 : Int64).toInt32 = nI q := by
  obtain ⟨N, hN, rfl⟩ := wb_of x
  have e : ((lN N).toUInt64 >>> ((33 : Int32).toInt64.toUInt64 &&& Int64.toUInt64 63)).toInt64 = lN (N / 2 ^ 33) := wb_shr (k := 33) hN (by decide)
  exact ⟨N / 2 ^ 33, by omega, by rw [e, l_32]⟩
theorem ok_turn {T : List (Nat × Nat)} (hT : okE T) {s a b : Nat} (hs : s < 1000000) (ha : a < 8) (hb : b < 8) : okE (turnE T s a b).1 := by
  unfold turnE
  by_cases hab : a = b
  · rw [if_pos hab]; exact hT
  rw [if_neg hab]
  by_cases hp : 10 * a + b ∈ ePr T
  · rw [if_pos hp]; exact hT.del _
  rw [if_neg hp]
  by_cases hl : T.length < 24
  · rw [if_pos hl]; exact hT.app hl hs ha hb hab hp
  · rw [if_neg hl]; exact hT
theorem turn_s (T : List (Nat × Nat)) (s a b : Nat) : (turnE T s a b).2 ≤ s + 1 := by
  unfold turnE
  split
  · exact Nat.le_succ _
  · split
    · exact Nat.le_succ _
    · split
      · exact Nat.le_refl _
      · exact Nat.le_succ _
section DR
variable {sz : Int32} {f : Nat → Int32} {E : List (Nat × Nat)} {now : Nat → Int32} {nx n : Nat}
theorem mturn {T : List (Nat × Nat)} (hd : mdR now 1 T nx) (hT : okE T) (h1 : 1 ≤ n) (h8 : n ≤ 8) {a b : Nat} (ha : a < n) (hb : b < n) (k0 : Int32) (cv od wy td : Nat → Int32) : ∃ (r : Bool) (now' : Nat → Int32), mX11_tryThing (nI n) k0 now cv od wy td (if plcP (ePr T) (10 * a + b) = -9 then 1 else 2) (nI a) (nI b) = some (r, k0, now', cv, od, wy, td) ∧ mdR now' 1 (turnE T nx a b).1 (turnE T nx a b).2 ∧ ∀ i, i < 50 → now' i = now i := by
  have hle := hT.1
  rw [mX11_tryThing, mknot_n h1 h8 (by omega), mknot_n h1 h8 (by omega), if_pos (decide_eq_true ha), if_pos (decide_eq_true hb)]
  by_cases hp : 10 * a + b ∈ ePr T
  · have h9 : ¬ plcP (ePr T) (10 * a + b) = -9 := by
      have := idx_lt hp
      rw [plcP, if_pos hp, i_ne9 (by omega)]; exact id
    have hab : ¬ a = b := by
      rintro rfl
      obtain ⟨e, he, q⟩ := ePr_get hp
      have := (hT.2.1 e (List.mem_of_getElem? he)).2.2.2
      omega
    rw [if_neg h9]
    obtain ⟨now', e, hd', hs⟩ := mtry_2 hd hT (show a < 8 by omega) (show b < 8 by omega) (nI n) k0 cv od wy td
    rw [if_pos hp] at hd'
    exact ⟨_, now', e, by rw [turnE, if_neg hab, if_pos hp]; exact hd', hs⟩
  · rw [if_pos (show plcP (ePr T) (10 * a + b) = -9 from if_neg hp)]
    obtain ⟨now', e, hd', hs⟩ := mtry_1 hd hT (show a < 8 by omega) (show b < 8 by omega) (nI n) k0 cv od wy td
    refine ⟨_, now', e, ?_, hs⟩
    rw [turnE]
    by_cases hab : a = b
    · rw [if_neg (fun q => q.1 hab)] at hd'
      rw [if_pos hab]; exact hd'
    · rw [if_neg hab, if_neg hp]
      by_cases hl : T.length < 24
      · rw [if_pos ⟨hab, hp, hl⟩] at hd'
        rw [if_pos hl]; exact hd'
      · rw [if_neg (fun q => hl q.2.2)] at hd'
        rw [if_neg hl]; exact hd'
theorem drawn_l (h1 : 1 ≤ n) (h8 : n ≤ 8) {m : Nat} (hm : m ≤ 20) (ra rb : Int32) (rc : Nat → Int32) : ∀ (j v fuel nx : Nat) (T : List (Nat × Nat)) (acc sz : Int32) (f : Nat → Int32) (sd t1 t2 t3 : Int64) (t4 k0 : Int32) (now cv od wy td : Nat → Int32), v + j = m → j < fuel → edR sz f T → mdR now 1 T nx → okE T → nx + j < 1000000 → ∃ (r : Int32) (sd' : Int64) (x1 x2 x3 : Int32) (x4 : Nat → Int32) (x5 x6 x7 : Int64) (x8 k0' : Int32) (now' cv' od' wy' td' : Nat → Int32), mX10_drawn_L29 (nI m) (nI n, ra, rb, rc) fuel acc (nI v) sd (nI nx) sz f t1 t2 t3 t4 = some (r, sd', x1, x2, x3, x4, x5, x6, x7, x8) ∧ mX11_drawn_L23 (nI n) (nI m) fuel acc (nI v) k0 sd now cv od wy td = some (r, k0', sd', now', cv', od', wy', td') ∧ ∀ i, i < 50 → now' i = now i := by
  intro j
  induction j with
  | zero =>
    intro v fuel nx T acc sz f sd t1 t2 t3 t4 k0 now cv od wy td hv hf h hd hT hnx
    obtain ⟨k, rfl⟩ := fuel_s hf
    rw [mX10_drawn_L29, mX11_drawn_L23, if_pos (nI_le_t (by omega) (by omega)), if_pos (nI_le_t (by omega) (by omega))]
    exact ⟨_, _, _, _, _, _, _, _, _, _, _, _, _, _, _, _, rfl, rfl, fun _ _ => rfl⟩
  | succ j ih =>
    intro v fuel nx T acc sz f sd t1 t2 t3 t4 k0 now cv od wy td hv hf h hd hT hnx
    obtain ⟨k, rfl⟩ := fuel_s hf
    obtain ⟨q, hq, eq⟩ := seed_q (sd * 6364136223846793005 + 1442695040888963407)
    have hk : kne (nI n) = true := by
      unfold kne
      exact decide_eq_true (nI_ne0 (by omega) (by omega))
    have e1 : nI q - nI q / nI n * nI n = nI (q % n) := pk_rem hq (by omega) (by omega)
    have e0 : nI q / 8 = nI (q / 8) := pk_div (d := 8) hq (by omega) (by omega)
    have e2 : nI q / 8 - nI q / 8 / nI n * nI n = nI (q / 8 % n) := by rw [e0]; exact pk_rem (by omega) (by omega) (by omega)
    have ha : q % n < n := Nat.mod_lt _ (by omega)
    have hb : q / 8 % n < n := Nat.mod_lt _ (by omega)
    obtain ⟨f', et, hr'⟩ := ed_turn h hT (s := nx) h1 h8 hq
    obtain ⟨r, now', em, hd', hs'⟩ := mturn hd hT h1 h8 ha hb k0 cv od wy td
    have hT' := ok_turn hT (s := nx) (by omega) (show q % n < 8 by omega) (show q / 8 % n < 8 by omega)
    have hts := turn_s T nx (q % n) (q / 8 % n)
    have ef : mX11_find now 1 (nI (q % n)) (nI (q / 8 % n)) = some (plcP (ePr T) (10 * (q % n) + q / 8 % n)) := md_find hd hT (by omega) (by omega)
    obtain ⟨g, eg, bg⟩ := ed_grid hr' hT'
    obtain ⟨cvd, cvr, rch, el, hc⟩ := learn_n t1 t2 t3 t4 g
    obtain ⟨mrch, cov, ec, hm'⟩ := findCovers_n hd' hT' k0 cv
    have hbc : bcR g cvd cvr rch cov mrch (pE (ePr (turnE T nx (q % n) (q / 8 % n)).1)) := ⟨hc, gE_pE hT' bg, hm'⟩
    have hsame := hbc.same
    subst hsame
    have ec' : mX11_findCovers k0 now' cv 1 = some (rch, cov) := ec
    obtain ⟨ds, s1, s2⟩ := hbc.dsum
    have hJ : ∀ (K : Int32 → Int32 → Int32 → Int64 → (Nat → Int32) → (Nat → Int32) → (Nat → Int32) → (Nat → Int32) → (Nat → Int32) → Option (Int32 × Int32 × Int64 × (Nat → Int32) × (Nat → Int32) × (Nat → Int32) × (Nat → Int32) × (Nat → Int32))), mX11_drawn_J95 K (nI n) acc (nI v) k0 sd now cv od wy td (if plcP (ePr T) (10 * (q % n) + q / 8 % n) = -9 then 1 else 2) = K (acc + ds) (nI (v + 1)) rch (sd * 6364136223846793005 + 1442695040888963407) now' cov od wy td := by
      intro K
      rw [mX11_drawn_J95, eq, e1, e2, em, Option.bind_some]
      dsimp only
      rw [ec', Option.bind_some]
      dsimp only
      rw [s2, Option.bind_some, nI_1]
    obtain ⟨r2, sd', x1, x2, x3, x4, x5, x6, x7, x8, k0', now'', cv', od', wy', td', q1, q2, q3⟩ := ih (v + 1) k (turnE T nx (q % n) (q / 8 % n)).2 (turnE T nx (q % n) (q / 8 % n)).1 (acc + ds) _ f' (sd * 6364136223846793005 + 1442695040888963407) g cvd cvr rch rch now' cov od wy td (by omega) (by omega) hr' hd' hT' (by omega)
    refine ⟨r2, sd', x1, x2, x3, x4, x5, x6, x7, x8, k0', now'', cv', od', wy', td', ?_, ?_, fun i hi => (q3 i hi).trans (hs' i hi)⟩
    · rw [mX10_drawn_L29, if_neg (nI_le_f (by omega) (by omega)), eq, et, Option.bind_some]
      dsimp only
      rw [eg, Option.bind_some, el, Option.bind_some]
      dsimp only
      rw [s1, Option.bind_some, nI_1]
      exact q1
    · rw [mX11_drawn_L23, if_neg (nI_le_f (by omega) (by omega)), gd_t hk, gd_t hk, eq, e1, e2, ef, Option.bind_some, ← q2]
      have := hJ (mX11_drawn_L23 (nI n) (nI m) k)
      by_cases h9 : plcP (ePr T) (10 * (q % n) + q / 8 % n) = -9
      · rw [if_pos h9] at this ⊢; exact this
      · rw [if_neg h9] at this ⊢; exact this
theorem both_drawn (h : edR sz f E) (hd : mdR now 0 E nx) (hE : okE E) (hnx : nx + 20 < 1000000) (h1 : 1 ≤ n) (h8 : n ≤ 8) (sd : Int64) (kn2 nx2 sz2 : Int32) (f2 : Nat → Int32) (t1 t2 t3 : Int64) (t4 k0 : Int32) (cv od wy td : Nat → Int32) (p1 : Int32) : ∃ (r : Int32) (sd' : Int64) (x1 x2 x3 : Int32) (x4 : Nat → Int32) (x5 x6 x7 : Int64) (x8 k0' : Int32) (now' cv' od' wy' td' : Nat → Int32), mX10_drawn sd (nI n) (nI nx) sz f kn2 nx2 sz2 f2 t1 t2 t3 t4 p1 = some (r, sd', x1, x2, x3, x4, x5, x6, x7, x8) ∧ mX11_drawn (nI n) k0 sd now cv od wy td p1 = some (r, k0', sd', now', cv', od', wy', td') ∧ mdR now' 0 E nx := by
  have e32 : (p1.toInt64).toInt = p1.toInt := Int32.toInt_toInt64 p1
  have z1 : (1 : Int64).toInt = 1 := rfl
  have z20 : (20 : Int64).toInt = 20 := rfl
  rw [mX10_drawn, mX11_drawn, in_n, e32, z1, z20]
  by_cases hlo : p1 < 1
  · have : p1.toInt < 1 := by rw [Int32.lt_iff_toInt_lt] at hlo; exact hlo
    rw [if_pos hlo, if_neg (by rw [decide_eq_true_eq]; omega)]
    exact ⟨_, _, _, _, _, _, _, _, _, _, _, _, _, _, _, _, rfl, rfl, hd⟩
  · have hlo' : ¬ p1.toInt < 1 := fun q => hlo (by rw [Int32.lt_iff_toInt_lt]; exact q)
    rw [if_neg hlo]
    by_cases hhi : p1 ≤ 20
    · have hhi' : p1.toInt ≤ 20 := by rw [Int32.le_iff_toInt_le] at hhi; exact hhi
      rw [if_pos hhi, if_pos (by rw [decide_eq_true_eq]; omega)]
      obtain ⟨m, hm, rfl⟩ : ∃ m : Nat, m < 2 ^ 31 ∧ p1 = nI m := nI_of (fun q => by rw [Int32.lt_iff_toInt_lt, Int32.toInt_zero] at q; omega)
      rw [nI_toInt hm] at hlo' hhi'
      obtain ⟨f', ec, hr'⟩ := ed_copy h kn2 (nI n) nx2 (nI nx) (sz2 := sz2) (f2 := f2)
      obtain ⟨now1, e6, hd1, hs1⟩ := md_lay hd
      obtain ⟨r2, sd', x1, x2, x3, x4, x5, x6, x7, x8, k0', now', cv', od', wy', td', q1, q2, q3⟩ := drawn_l h1 h8 (show m ≤ 20 by omega) (nI nx) (nI E.length) f' m 0 kFU nx E 0 (nI E.length) f' sd t1 t2 t3 t4 k0 now1 cv od wy td (by omega) (kFU_b (by omega)) hr' hd1 hE (by omega)
      have q1' : mX10_drawn_L29 (nI m) (nI n, nI nx, nI E.length, f') kFU 0 0 sd (nI nx) (nI E.length) f' t1 t2 t3 t4 = _ := q1
      have q2' : mX11_drawn_L23 (nI n) (nI m) kFU 0 0 k0 sd now1 cv od wy td = _ := q2
      rw [ec, Option.bind_some, e6, Option.bind_some]
      exact ⟨_, _, _, _, _, _, _, _, _, _, _, _, _, _, _, _, q1', q2', hd.same fun i _ hi => (q3 i (by omega)).trans (hs1 i (by omega))⟩
    · have hhi' : ¬ p1.toInt ≤ 20 := fun q => hhi (by rw [Int32.le_iff_toInt_le]; exact q)
      rw [if_neg hhi, if_neg (by rw [decide_eq_true_eq]; omega)]
      exact ⟨_, _, _, _, _, _, _, _, _, _, _, _, _, _, _, _, rfl, rfl, hd⟩
end DR
