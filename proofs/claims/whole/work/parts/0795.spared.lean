/-! spared: both sides alike -/
def wj (X : Nat) : Nat → Nat → Nat | 0, _ => 1 | j + 1, m => (if m.testBit 0 = true then 10 - X else X) * wj X j (m / 2)
theorem wj_pc (X : Nat) : ∀ (j m : Nat), wj X j m = (10 - X) ^ pc j m * X ^ (j - pc j m)
  | 0, m => rfl
  | j + 1, m => by
    have h := pc_le j (m / 2)
    show (if m.testBit 0 = true then 10 - X else X) * wj X j (m / 2) = (10 - X) ^ ((m.testBit 0).toNat + pc j (m / 2)) * X ^ (j + 1 - ((m.testBit 0).toNat + pc j (m / 2)))
    rw [wj_pc X j (m / 2)]
    by_cases h0 : m.testBit 0 = true
    · rw [if_pos h0, h0, show true.toNat + pc j (m / 2) = pc j (m / 2) + 1 from by show 1 + _ = _; omega, Nat.pow_succ, show j + 1 - (pc j (m / 2) + 1) = j - pc j (m / 2) from by omega, Nat.mul_comm ((10 - X) ^ _) (10 - X), Nat.mul_assoc]
    · rw [if_neg h0, Bool.eq_false_iff.mpr h0, show false.toNat + pc j (m / 2) = pc j (m / 2) from by show 0 + _ = _; omega, show j + 1 - pc j (m / 2) = (j - pc j (m / 2)) + 1 from by omega, Nat.pow_succ, Nat.mul_left_comm, Nat.mul_comm X]
def su (F : Nat → Nat) : Nat → Nat | 0 => 0 | n + 1 => su F n + F n
theorem su_2 (F : Nat → Nat) : ∀ n, su F (2 * n) = su (fun q => F (2 * q) + F (2 * q + 1)) n
  | 0 => rfl
  | n + 1 => by
    rw [show 2 * (n + 1) = (2 * n + 1) + 1 from by omega]
    show su F (2 * n) + F (2 * n) + F (2 * n + 1) = _ + (F (2 * n) + F (2 * n + 1))
    rw [su_2 F n, Nat.add_assoc]
theorem su_c (F G : Nat → Nat) (c : Nat) (h : ∀ q, F q = c * G q) : ∀ n, su F n = c * su G n
  | 0 => rfl
  | n + 1 => by
    show su F n + F n = c * (su G n + G n)
    rw [su_c F G c h n, h n, Nat.mul_add]
theorem wj_sum {X : Nat} (hX : X ≤ 10) : ∀ j, su (wj X j) (2 ^ j) = 10 ^ j
  | 0 => rfl
  | j + 1 => by
    rw [Nat.pow_succ, Nat.mul_comm, su_2, su_c _ (wj X j) 10 (fun q => ?_), wj_sum hX j, Nat.pow_succ, Nat.mul_comm]
    show (if (2 * q).testBit 0 = true then 10 - X else X) * wj X j (2 * q / 2) + (if (2 * q + 1).testBit 0 = true then 10 - X else X) * wj X j ((2 * q + 1) / 2) = 10 * wj X j q
    rw [Nat.testBit_zero, Nat.testBit_zero, decide_eq_false (show ¬ 2 * q % 2 = 1 by omega), decide_eq_true (show (2 * q + 1) % 2 = 1 by omega), if_neg Bool.false_ne_true, if_pos rfl, show 2 * q / 2 = q by omega, show (2 * q + 1) / 2 = q by omega, ← Nat.add_mul, show X + (10 - X) = 10 by omega]
theorem pow_b {X r : Nat} (hX : X ≤ 10) (c : Nat) (hc : c ≤ r) : (10 - X) ^ c * X ^ (r - c) ≤ 10 ^ r := by
  have h1 : (10 - X) ^ c ≤ 10 ^ c := Nat.pow_le_pow_left (by omega) c
  have h2 : X ^ (r - c) ≤ 10 ^ (r - c) := Nat.pow_le_pow_left hX _
  have h3 : 10 ^ c * 10 ^ (r - c) = 10 ^ r := by rw [← Nat.pow_add]; congr 1; omega
  rw [← h3]
  exact Nat.mul_le_mul h1 h2
section SP
variable {sz : Int32} {f : Nat → Int32} {E : List (Nat × Nat)} {now : Nat → Int32} {nx n a : Nat} {g : Int64}
def spF (g : Int64) (a v X r : Nat) (x : Int32) : Nat := if cr g a x < v then 0 else (10 - X) ^ ct x * X ^ (r - ct x)
theorem ct_rest {x y : Int32} (h : ∀ i, i < 8 → bt x i = true → bt y i = true) : ct (y &&& (x ^^^ (-1))) = ct y - ct x := by
  have h1 : ct (x ||| (y &&& (x ^^^ (-1)))) = ct x + ct (y &&& (x ^^^ (-1))) := ct_or fun i hi q => by rw [b_and, b_not _ (by omega), q]; simp
  have h2 : ct (x ||| (y &&& (x ^^^ (-1)))) = ct y := by
    apply Nat.le_antisymm
    · refine ct_le_of fun i hi q => ?_
      rw [b_or, b_and, b_not _ (by omega), Bool.or_eq_true, Bool.and_eq_true] at q
      exact q.elim (h i hi) fun z => z.1
    · refine ct_le_of fun i hi q => ?_
      rw [b_or, b_and, b_not _ (by omega), q]
      cases bt x i <;> rfl
  omega
theorem wgt_c {v X : Nat} (hv : v < 100) (hX : X ≤ 10) {M : Nat} (hM : M < 256) (hr : mX5_line g (nI a) = nI M) : ∀ (j k fuel A : Nat), k + j = M + 1 → j < fuel → mX1_weightOfReaching_L13 g (nI a) (nI v) (nI X) fuel (nI A) (nI k) = some (nI (A + sN (spF g a v X (ct (nI M))) (LC M k j))) := by
  intro j
  induction j with
  | zero =>
    intro k fuel A hk hf
    obtain ⟨m, rfl⟩ := fuel_s hf
    rw [mX1_weightOfReaching_L13, hr, if_pos ((nI_ltI (by omega) (by omega)).mpr (by omega))]
    rfl
  | succ j ih =>
    intro k fuel A hk hf
    obtain ⟨m, rfl⟩ := fuel_s hf
    have hk8 : k < 256 := by omega
    have hs8 : s8 (nI k) := s8_of hk8
    rw [mX1_weightOfReaching_L13, hr, if_neg (fun q => by have := (nI_ltI (by omega) (by omega)).mp q; omega)]
    have hL : LC M k (j + 1) = if nI k &&& (nI M ^^^ (-1)) = 0 then nI k :: LC M (k + 1) j else LC M (k + 1) j := by
      unfold LC
      rw [List.range'_succ]
      by_cases h : nI k &&& (nI M ^^^ (-1)) = 0
      · rw [if_pos h, List.filter_cons_of_pos (by exact decide_eq_true h)]; rfl
      · rw [if_neg h, List.filter_cons_of_neg (by rw [decide_eq_true_eq]; exact h)]
    rw [hL]
    by_cases h : nI k &&& (nI M ^^^ (-1)) = 0
    · have hsub := (sub_iff hM hk8).mp h
      have hcr := (cr_c g a (nI k)).2
      have hct := ct_le (nI k)
      have hct2 := ct_le (nI M)
      rw [if_pos h, if_pos h, (cr_c g a _).1, Option.bind_some, nI_1]
      by_cases hc : cr g a (nI k) < v
      · rw [if_pos ((nI_ltI (by omega) (by omega)).mpr hc), ih (k + 1) m A (by omega) (by omega)]
        congr 2
        show _ = A + (spF g a v X (ct (nI M)) (nI k) + _)
        unfold spF
        rw [if_pos hc]
        omega
      · have e10 : (10 : Int32) - nI X = nI (10 - X) := nI_subN (a := 10) hX
        rw [if_neg (fun q => hc ((nI_ltI (by omega) (by omega)).mp q)), e10, bitCount_n hs8, pow_c _ (by omega), Option.bind_some, bitCount_n (s8_andl (s8_of hM) _), ct_rest hsub, pow_c _ (by omega), Option.bind_some]
        rw [show nI ((10 - X) ^ ct (nI k)) * nI (X ^ (ct (nI M) - ct (nI k))) = nI ((10 - X) ^ ct (nI k) * X ^ (ct (nI M) - ct (nI k))) from pk_mul _ _, nI_add, ih (k + 1) m _ (by omega) (by omega)]
        congr 2
        show _ = A + (spF g a v X (ct (nI M)) (nI k) + _)
        have : spF g a v X (ct (nI M)) (nI k) = (10 - X) ^ ct (nI k) * X ^ (ct (nI M) - ct (nI k)) := if_neg hc
        omega
    · rw [if_neg h, if_neg h, nI_1]
      exact ih (k + 1) m A (by omega) (by omega)
theorem wgt_in {v X r : Nat} (hX : X ≤ 10) (hr : r ≤ 7) (K : Int32 → Int32 → Int32 → Option Int32) (p1 p2 A B : Int32) {k : Nat} : ∀ (j i fuel w : Nat), i + j = r → j < fuel → mX11_spared_L69 K now p1 p2 (nI X) (nI r) A B (nI k) fuel (nI w) (nI i) = mX11_spared_J105 K now p1 p2 A B (nI k) (nI (w * wj X j (k / 2 ^ i))) := by
  intro j
  induction j with
  | zero =>
    intro i fuel w hi hf
    obtain ⟨m, rfl⟩ := fuel_s hf
    rw [mX11_spared_L69, if_pos (nI_le_t (by omega) (by omega))]
    show _ = mX11_spared_J105 K now p1 p2 A B (nI k) (nI (w * 1))
    rw [Nat.mul_one]
  | succ j ih =>
    intro i fuel w hi hf
    obtain ⟨m, rfl⟩ := fuel_s hf
    have e10 : (10 : Int32) - nI X = nI (10 - X) := nI_subN (a := 10) hX
    have eb : (k / 2 ^ i).testBit 0 = k.testBit i := by rw [Nat.testBit_div_two_pow, Nat.zero_add]
    have e2 : k / 2 ^ i / 2 = k / 2 ^ (i + 1) := by rw [Nat.div_div_eq_div_mul, Nat.pow_succ]
    rw [mX11_spared_L69, if_neg (nI_le_f (by omega) (by omega)), has_n _ (by omega), bt_nI, decide_eq_true (show i < 32 by omega), Bool.true_and, nI_1, e10]
    show _ = mX11_spared_J105 K now p1 p2 A B (nI k) (nI (w * ((if (k / 2 ^ i).testBit 0 = true then 10 - X else X) * wj X j (k / 2 ^ i / 2))))
    rw [eb, e2, ← Nat.mul_assoc]
    by_cases ht : k.testBit i = true
    · rw [if_pos ht, if_pos ht, show nI w * nI (10 - X) = nI (w * (10 - X)) from pk_mul _ _]
      exact ih (i + 1) m _ (by omega) (by omega)
    · rw [if_neg ht, if_neg ht, show nI w * nI X = nI (w * X) from pk_mul _ _]
      exact ih (i + 1) m _ (by omega) (by omega)
theorem wgt_m (hg : gE g = pE (ePr E)) (hd : mdR now 0 E nx) (hE : okE E) (ha : a < 8) {v X : Nat} (hv : v < 100) (hX : X ≤ 10) (up : Bool) : ∀ (j k fuel A : Nat), k + j = 2 ^ (tg E a).length → j < fuel → mX11_spared_L54 now (nI a) (nI v) (nI X) up (nI (tg E a).length) fuel (nI A) (nI (su (wj X (tg E a).length) k)) (nI k) = mX11_spared_J146 up (nI (A + sN (spF g a v X (tg E a).length) (LM (tg E a) (fun _ => true) k j))) (nI (su (wj X (tg E a).length) (2 ^ (tg E a).length))) := by
  have h7 := tg_len hE ha
  have h8 : ∀ x, x ∈ tg E a → x < 8 := fun x hx => tg_8 hE hx
  have hp : 2 ^ (tg E a).length ≤ 2 ^ 7 := Nat.pow_le_pow_right (by decide) h7
  intro j
  induction j with
  | zero =>
    intro k fuel A hk hf
    obtain ⟨m, rfl⟩ := fuel_s hf
    rw [mX11_spared_L54, shl1 _ (by omega), if_pos (nI_le_t (by omega) (by omega)), show k = 2 ^ (tg E a).length from by omega]
    rfl
  | succ j ih =>
    intro k fuel A hk hf
    obtain ⟨m, rfl⟩ := fuel_s hf
    have ephi : ct (phi (tg E a) k) = pc (tg E a).length k := ct_phi _ _ h8 (tg_nd hE)
    obtain ⟨r0, c0, o0⟩ := cr_m hg hd hE ha (show k < 2 ^ 31 by omega)
    have hcr := (cr_c g a (phi (tg E a) k)).2
    have hin := wgt_in (now := now) (v := v) hX h7 (mX11_spared_L54 now (nI a) (nI v) (nI X) up (nI (tg E a).length) m) (nI a) (nI v) (nI A) (nI (su (wj X (tg E a).length) k)) (k := k) (tg E a).length 0 kFU 1 (by omega) (kFU_b (by omega))
    have hin' : mX11_spared_L69 (mX11_spared_L54 now (nI a) (nI v) (nI X) up (nI (tg E a).length) m) now (nI a) (nI v) (nI X) (nI (tg E a).length) (nI A) (nI (su (wj X (tg E a).length) k)) (nI k) kFU 1 0 = _ := hin
    rw [mX11_spared_L54, shl1 _ (by omega), if_neg (nI_le_f (by omega) (by omega)), hin', Nat.one_mul, Nat.pow_zero, Nat.div_one, mX11_spared_J105, c0, Option.bind_some, o0, Option.bind_some, LM_s, if_pos rfl, nI_1, nI_add, nI_add]
    have hsu : su (wj X (tg E a).length) k + wj X (tg E a).length k = su (wj X (tg E a).length) (k + 1) := rfl
    rw [hsu]
    by_cases hc : cr g a (phi (tg E a) k) < v
    · rw [if_pos ((nI_ltI (by omega) (by omega)).mpr hc), show nI A + 0 = nI A from Int32.add_zero _, ih (k + 1) m A (by omega) (by omega)]
      congr 2
      show _ = A + (spF g a v X (tg E a).length (phi (tg E a) k) + _)
      unfold spF
      rw [if_pos hc]
      omega
    · rw [if_neg (fun q => hc ((nI_ltI (by omega) (by omega)).mp q)), ih (k + 1) m _ (by omega) (by omega)]
      congr 2
      show _ = A + (spF g a v X (tg E a).length (phi (tg E a) k) + _)
      have : spF g a v X (tg E a).length (phi (tg E a) k) = wj X (tg E a).length k := by
        rw [wj_pc, ← ephi]; exact if_neg hc
      omega
theorem both_spared (h : edR sz f E) (hd : mdR now 0 E nx) (hE : okE E) (h1 : 1 ≤ n) (h8 : n ≤ 8) (p1 p2 p3 : Int32) (up : Bool) : ∃ r, mX10_spared (nI n) sz f p1 p2 p3 up = some r ∧ mX11_spared (nI n) now p1 p2 p3 up = some r := by
  rw [mX10_spared, mX11_spared]
  rcases knot_n h1 h8 p1 with ⟨a, ha, rfl, q1, q2⟩ | ⟨q1, q2⟩
  · rw [if_pos q1, if_pos q2]
    rcases in_0 p2 (m := 8) (k := 8) rfl (by omega) with ⟨v, hv, rfl, ei⟩ | ⟨hp, ei⟩
    · rw [if_pos ei, if_neg (nI_pos (by omega)), if_neg (show ¬ (8 : Int32) < nI v from fun q => by have := (nI_ltI (a := 8) (by omega) (by omega)).mp q; omega)]
      rcases in_0 p3 (m := 10) (k := 10) rfl (by omega) with ⟨X, hX, rfl, ei2⟩ | ⟨hp, ei2⟩
      · have ha8 : a < 8 := by omega
        obtain ⟨g, eg, bg⟩ := ed_grid h hE
        have hg := gE_pE hE bg
        have h8' : ∀ x, x ∈ tg E a → x < 8 := fun x hx => tg_8 hE hx
        have h7 := tg_len hE ha8
        have hp7 : 2 ^ (tg E a).length ≤ 2 ^ 7 := Nat.pow_le_pow_right (by decide) h7
        have ht7 : 10 ^ (tg E a).length ≤ 10 ^ 7 := Nat.pow_le_pow_right (by decide) h7
        have ht0 : 0 < 10 ^ (tg E a).length := Nat.pow_pos (by decide)
        have hlb := line_tg hg hE ha8
        have hls := s8_line g ha8
        have hct : ct (mX5_line g (nI a)) = (tg E a).length := ct_all h8' (tg_nd hE) hls hlb
        obtain ⟨M, hM, hrM⟩ := s8_nat hls
        have hwc := wgt_c (a := a) (show v < 100 by omega) hX hM hrM (M + 1) 0 kFU 0 (by omega) (kFU_b (by omega))
        have hwc' : mX1_weightOfReaching_L13 g (nI a) (nI v) (nI X) kFU 0 0 = _ := hwc
        have hwm := wgt_m hg hd hE ha8 (show v < 100 by omega) hX up (2 ^ (tg E a).length) 0 kFU 0 (by omega) (kFU_b (by omega))
        have hwm' : mX11_spared_L54 now (nI a) (nI v) (nI X) up (nI (tg E a).length) kFU 0 0 0 = _ := hwm
        have hperm : (LM (tg E a) (fun _ => true) 0 (2 ^ (tg E a).length)).Perm (LC M 0 (M + 1)) := by
          refine LC_perm h8' (tg_nd hE) hM (fun m hm => ⟨fun _ i _ hb => ?_, fun _ => rfl⟩) (fun t ht => ?_) (fun m => phi_s hE m)
          · obtain ⟨j, hj, -⟩ := (phi_b _ _ _ h8').mp hb
            rw [← hrM]
            exact (hlb i).mpr (List.mem_of_getElem? hj)
          · rw [← hrM] at ht
            exact (hlb t).mp ht
        have hck : ct (nI M) = (tg E a).length := by rw [← hrM]; exact hct
        have hub : sN (spF g a v X (tg E a).length) (LM (tg E a) (fun _ => true) 0 (2 ^ (tg E a).length)) < 2 ^ 31 := by
          have hl : (LM (tg E a) (fun _ => true) 0 (2 ^ (tg E a).length)).length ≤ 2 ^ (tg E a).length := by
            unfold LM
            rw [List.length_map]
            exact Nat.le_trans (List.length_filter_le ..) (Nat.le_of_eq List.length_range')
          have hx := sN_le (spF g a v X (tg E a).length) (10 ^ 7) (LM (tg E a) (fun _ => true) 0 (2 ^ (tg E a).length)) fun x hx => by
            obtain ⟨m, hm, rfl⟩ := List.mem_map.mp hx
            unfold spF
            split
            · exact Nat.zero_le _
            · refine Nat.le_trans (pow_b hX _ ?_) ht7
              rw [ct_phi _ _ h8' (tg_nd hE)]
              exact pc_le _ _
          have hl2 : 10 ^ 7 * (LM (tg E a) (fun _ => true) 0 (2 ^ (tg E a).length)).length ≤ 10 ^ 7 * 2 ^ 7 := Nat.mul_le_mul_left _ (by omega)
          omega
        rw [if_neg (nI_pos (by omega)), if_pos (show nI X ≤ (10 : Int32) from (nI_leI (b := 10) (by omega) (by omega)).mpr hX), if_pos ei2, eg, Option.bind_some, mX1_weightOfReaching, hwc', Option.bind_some, bitCount_n hls, hct, show (10 : Int32) = nI 10 from rfl, pow_c 10 (by omega), Option.bind_some, outOf_n hd hE ha8, Option.bind_some, hwm', wj_sum hX, Nat.zero_add, Nat.zero_add, hck, ← sN_perm _ hperm]
        refine ⟨_, by rw [least_c hub ht0 (by omega)]; rfl, ?_⟩
        rw [mX11_spared_J146]
        exact least_m hub ht0 (by omega) up
      · rw [if_neg (show ¬ mX11_in p3.toInt64 0 10 = true by rw [ei2]; exact Bool.false_ne_true)]
        rcases hp with hp | hp
        · rw [if_pos hp]; exact ⟨_, rfl, rfl⟩
        · by_cases hneg : p3 < 0
          · rw [if_pos hneg]; exact ⟨_, rfl, rfl⟩
          · rw [if_neg hneg, if_neg (show ¬ p3 ≤ 10 from fun q => absurd (show (10 : Int32) < 10 from Int32.lt_of_lt_of_le hp q) (by decide))]; exact ⟨_, rfl, rfl⟩
    · rw [if_neg (show ¬ mX11_in p2.toInt64 0 8 = true by rw [ei]; exact Bool.false_ne_true)]
      rcases hp with hp | hp
      · rw [if_pos hp]; exact ⟨_, rfl, rfl⟩
      · by_cases hneg : p2 < 0
        · rw [if_pos hneg]; exact ⟨_, rfl, rfl⟩
        · rw [if_neg hneg, if_pos (show (8 : Int32) < p2 from hp)]; exact ⟨_, rfl, rfl⟩
  · rw [q1, q2, if_f, if_f]
    exact ⟨_, rfl, rfl⟩
end SP
