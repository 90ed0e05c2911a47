/-! share: both sides alike -/
theorem shl1 : ∀ r, r < 9 → (1 : Int32) <<< (nI r &&& 31) = nI (2 ^ r) := by decide +kernel
theorem fac_b : ∀ k, k < 7 → ∀ c, c < k + 1 → fac c * fac (k - c) ≤ 720 := by decide +kernel
theorem fac_7 : ∀ k, k < 8 → 0 < fac k ∧ fac k < 100000000 := by decide +kernel
section SR
variable {sz : Int32} {f : Nat → Int32} {E : List (Nat × Nat)} {now : Nat → Int32} {nx n a : Nat} {g : Int64}
/-- what one order's sets before an edge bring -/
def gnF (g : Int64) (a b k : Nat) (x : Int32) : Nat := (cr g a (x ||| mX5_only (nI b)) - cr g a x) * fac (ct x) * fac (k - ct x)
theorem line_tg (hg : gE g = pE (ePr E)) (hE : okE E) (ha : a < 8) (t : Nat) : bt (mX5_line g (nI a)) t = true ↔ t ∈ tg E a := by
  rw [gE_line ha, hg, tg_mem hE]
  exact ⟨fun h => h.2, fun h => ⟨ha, h⟩⟩
theorem gain_c (hg : gE g = pE (ePr E)) (ha : a < 8) {b : Nat} (hb : b < 8) {M : Nat} (hM : M < 256) (hr : mX5_line g (nI a) &&& (mX5_only (nI b) ^^^ (-1)) = nI M) (h7 : ct (nI M) < 7) : ∀ (j k fuel A : Nat), k + j = M + 1 → j < fuel → mX1_gainInAllOrders_L24 g (nI a) (nI b) fuel (nI A) (nI k) = some (nI (A + sN (gnF g a b (ct (nI M))) (LC M k j))) := by
  intro j
  induction j with
  | zero =>
    intro k fuel A hk hf
    obtain ⟨m, rfl⟩ := fuel_s hf
    rw [mX1_gainInAllOrders_L24, hr, if_pos ((nI_ltI (by omega) (by omega)).mpr (by omega))]
    rfl
  | succ j ih =>
    intro k fuel A hk hf
    obtain ⟨m, rfl⟩ := fuel_s hf
    have hk8 : k < 256 := by omega
    have hs8 : s8 (nI k) := s8_of hk8
    rw [mX1_gainInAllOrders_L24, hr, if_neg (fun q => by have := (nI_ltI (by omega) (by omega)).mp q; omega)]
    have hL : LC M k (j + 1) = if nI k &&& (nI M ^^^ (-1)) = 0 then nI k :: LC M (k + 1) j else LC M (k + 1) j := by
      unfold LC
      rw [List.range'_succ]
      by_cases h : nI k &&& (nI M ^^^ (-1)) = 0
      · rw [if_pos h, List.filter_cons_of_pos (by exact decide_eq_true h)]; rfl
      · rw [if_neg h, List.filter_cons_of_neg (by rw [decide_eq_true_eq]; exact h)]
    rw [hL]
    by_cases h : nI k &&& (nI M ^^^ (-1)) = 0
    · have hsub := (sub_iff hM hk8).mp h
      have hle : ct (nI k) ≤ ct (nI M) := ct_le_of hsub
      have hob : s8 (nI k ||| mX5_only (nI b)) := s8_or hs8 (s8_only hb)
      have hmono : cr g a (nI k) ≤ cr g a (nI k ||| mX5_only (nI b)) := cr_mono hg ha hs8 hob fun i _ q => by rw [b_or, q]; rfl
      rw [if_pos h, if_pos h, (cr_c g a _).1, Option.bind_some, (cr_c g a _).1, Option.bind_some, bitCount_n hs8, fact_c (by omega), Option.bind_some, bitCount_n (s8_of hM), nI_subN hle, fact_c (by omega), Option.bind_some, nI_subN hmono]
      rw [show nI (cr g a (nI k ||| mX5_only (nI b)) - cr g a (nI k)) * nI (fac (ct (nI k))) = nI ((cr g a (nI k ||| mX5_only (nI b)) - cr g a (nI k)) * fac (ct (nI k))) from pk_mul _ _]
      rw [show nI ((cr g a (nI k ||| mX5_only (nI b)) - cr g a (nI k)) * fac (ct (nI k))) * nI (fac (ct (nI M) - ct (nI k))) = nI ((cr g a (nI k ||| mX5_only (nI b)) - cr g a (nI k)) * fac (ct (nI k)) * fac (ct (nI M) - ct (nI k))) from pk_mul _ _, nI_add, nI_1, ih (k + 1) m _ (by omega) (by omega)]
      congr 2
      show _ = A + (gnF g a b (ct (nI M)) (nI k) + _)
      unfold gnF
      omega
    · rw [if_neg h, if_neg h, nI_1]
      exact ih (k + 1) m A (by omega) (by omega)
/-- the sets of places without one place -/
def LM (l : List Nat) (P : Nat → Bool) (k j : Nat) : List Int32 := ((List.range' k j).filter P).map (phi l)
theorem LM_s (l : List Nat) (P : Nat → Bool) (k j : Nat) : LM l P k (j + 1) = if P k = true then phi l k :: LM l P (k + 1) j else LM l P (k + 1) j := by
  unfold LM
  rw [List.range'_succ]
  by_cases h : P k = true
  · rw [if_pos h, List.filter_cons_of_pos h]; rfl
  · rw [if_neg h, List.filter_cons_of_neg h]
theorem phi_or {l : List Nat} (h8 : ∀ x, x ∈ l → x < 8) {i b : Nat} (hi : l[i]? = some b) (m : Nat) : phi l (m ||| 2 ^ i) = phi l m ||| mX5_only (nI b) := by
  have hb8 := h8 b (List.mem_of_getElem? hi)
  refine b_ext fun t _ => ?_
  rw [b_or, only_b (by omega), Bool.eq_iff_iff, phi_b _ _ _ h8, Bool.or_eq_true, phi_b _ _ _ h8, decide_eq_true_eq]
  constructor
  · rintro ⟨j, h1, h2⟩
    rw [Nat.testBit_or, Bool.or_eq_true, Nat.testBit_two_pow, decide_eq_true_eq] at h2
    rcases h2 with h2 | h2
    · exact Or.inl ⟨j, h1, h2⟩
    · subst h2
      rw [hi] at h1
      exact Or.inr (Option.some.inj h1).symm
  · rintro (⟨j, h1, h2⟩ | h)
    · exact ⟨j, h1, by rw [Nat.testBit_or, h2]; rfl⟩
    · subst h
      exact ⟨i, hi, by rw [Nat.testBit_or, Nat.testBit_two_pow, decide_eq_true rfl, Bool.or_true]⟩
theorem gain_m (hg : gE g = pE (ePr E)) (hd : mdR now 0 E nx) (hE : okE E) (ha : a < 8) {b idx : Nat} (hi : (tg E a)[idx]? = some b) (up : Bool) : ∀ (j k fuel A : Nat), k + j = 2 ^ (tg E a).length → j < fuel → mX11_share_L91 now (nI a) up (nI idx) (nI (tg E a).length) fuel (nI A) (nI k) = mX11_share_J180 up (nI (tg E a).length) (nI (A + sN (gnF g a b ((tg E a).length - 1)) (LM (tg E a) (fun m => !m.testBit idx) k j))) := by
  have h7 := tg_len hE ha
  have h8 : ∀ x, x ∈ tg E a → x < 8 := fun x hx => tg_8 hE hx
  have hil := (List.getElem?_eq_some_iff.mp hi).1
  have hb8 := h8 b (List.mem_of_getElem? hi)
  have hp : 2 ^ (tg E a).length ≤ 2 ^ 7 := Nat.pow_le_pow_right (by decide) h7
  intro j
  induction j with
  | zero =>
    intro k fuel A hk hf
    obtain ⟨m, rfl⟩ := fuel_s hf
    rw [mX11_share_L91, shl1 _ (by omega), if_pos (nI_le_t (by omega) (by omega))]
    rfl
  | succ j ih =>
    intro k fuel A hk hf
    obtain ⟨m, rfl⟩ := fuel_s hf
    rw [mX11_share_L91, shl1 _ (by omega), if_neg (nI_le_f (by omega) (by omega)), has_n _ (by omega), bt_nI, decide_eq_true (show idx < 32 by omega), Bool.true_and, LM_s]
    by_cases ht : k.testBit idx = true
    · rw [if_pos ht, if_neg (by rw [ht]; decide), nI_1]
      exact ih (k + 1) m A (by omega) (by omega)
    · have hs := phi_s (a := a) hE k
      have hob : s8 (phi (tg E a) k ||| mX5_only (nI b)) := s8_or hs (s8_only hb8)
      have hmono : cr g a (phi (tg E a) k) ≤ cr g a (phi (tg E a) k ||| mX5_only (nI b)) := cr_mono hg ha hs hob fun i _ q => by rw [b_or, q]; rfl
      have ek : ct (nI k) = pc (tg E a).length k := pc_ct (by omega) (by omega)
      have ephi : ct (phi (tg E a) k) = pc (tg E a).length k := ct_phi _ _ h8 (tg_nd hE)
      have hcl : pc (tg E a).length k ≤ (tg E a).length - 1 := by
        have h2 : ct (phi (tg E a) k ||| mX5_only (nI b)) = pc (tg E a).length k + 1 := by
          rw [ct_or, ephi, ct_only b hb8]
          intro i _ q
          rw [only_b (by omega), decide_eq_false_iff_not]
          rintro rfl
          obtain ⟨jj, hj1, hj2⟩ := (phi_b _ _ _ h8).mp q
          have : jj = idx := by
            obtain ⟨w1, w2⟩ := List.getElem?_eq_some_iff.mp hj1
            obtain ⟨w3, w4⟩ := List.getElem?_eq_some_iff.mp hi
            exact (List.getElem_inj (h₀ := w1) (h₁ := w3) (tg_nd hE)).mp (w2.trans w4.symm)
          rw [this] at hj2
          exact ht hj2
        rw [← phi_or h8 hi, ct_phi _ _ h8 (tg_nd hE)] at h2
        have := pc_le (tg E a).length (k ||| 2 ^ idx)
        omega
      have hk2 : k ||| 2 ^ idx < 2 ^ 31 := by
        have := Nat.or_lt_two_pow (n := 8) (show k < 2 ^ 8 by omega) (Nat.pow_lt_pow_right (a := 2) (by decide) (show idx < 8 by omega))
        omega
      have eor : nI k ||| nI (2 ^ idx) = nI (k ||| 2 ^ idx) := by
        refine b_ext fun i hi => ?_
        rw [b_or, bt_nI, bt_nI, bt_nI, Nat.testBit_or, decide_eq_true hi]; rfl
      obtain ⟨r1, c1, o1⟩ := cr_m hg hd hE ha hk2
      obtain ⟨r0, c0, o0⟩ := cr_m hg hd hE ha (show k < 2 ^ 31 by omega)
      rw [phi_or h8 hi] at o1
      rw [if_neg ht, ones_n, Option.bind_some, ek, fact_m (by omega), Option.bind_some, Option.bind_some, i_pred (by omega), nI_subN hcl, fact_m (by omega), Option.bind_some, shl1 idx (by omega), eor, c1, Option.bind_some, o1, Option.bind_some, c0, Option.bind_some, o0, Option.bind_some, nI_subN hmono]
      rw [show nI (fac (pc (tg E a).length k)) * nI (fac ((tg E a).length - 1 - pc (tg E a).length k)) = nI (fac (pc (tg E a).length k) * fac ((tg E a).length - 1 - pc (tg E a).length k)) from pk_mul _ _]
      rw [show nI (fac (pc (tg E a).length k) * fac ((tg E a).length - 1 - pc (tg E a).length k)) * nI (cr g a (phi (tg E a) k ||| mX5_only (nI b)) - cr g a (phi (tg E a) k)) = nI (fac (pc (tg E a).length k) * fac ((tg E a).length - 1 - pc (tg E a).length k) * (cr g a (phi (tg E a) k ||| mX5_only (nI b)) - cr g a (phi (tg E a) k))) from pk_mul _ _, nI_add, nI_1, ih (k + 1) m _ (by omega) (by omega), if_pos (by rw [Bool.eq_false_iff.mpr ht]; rfl)]
      congr 2
      show _ = A + (gnF g a b ((tg E a).length - 1) (phi (tg E a) k) + _)
      unfold gnF
      rw [ephi, Nat.mul_assoc (cr g a _ - cr g a _), Nat.mul_comm (cr g a _ - cr g a _)]
      omega
theorem kne_n {k : Nat} (h : 0 < k) (h2 : k < 2 ^ 31) : kne (nI k) = true := by
  unfold kne
  exact decide_eq_true (nI_ne0 h h2)
theorem least_m {u v : Nat} (hu : u < 2 ^ 31) (h0 : 0 < v) (hv : v < 100000000) (b : Bool) : (mX11_common (nI u) (nI v)).bind (fun r => if b = true then gd (kne r) (some (nI u / r)) else gd (kne r) (some (nI v / r))) = some (if b = true then nI (u / Nat.gcd u v) else nI (v / Nat.gcd u v)) := by
  have hg : 0 < Nat.gcd u v := Nat.gcd_pos_of_pos_right u h0
  have hg2 : Nat.gcd u v ≤ v := Nat.le_of_dvd h0 (Nat.gcd_dvd_right u v)
  rw [comm_n hu hv, Option.bind_some, gd_t (kne_n hg (by omega)), gd_t (kne_n hg (by omega)), pk_div hu hg (by omega), pk_div (by omega) hg (by omega)]
  cases b <;> rfl
theorem count_l (hd : mdR now 0 E nx) (hE : okE E) (ha : a < 8) (up : Bool) {pl : Nat} (hpl : pl ≤ E.length) : ∀ (j k fuel : Nat), k + j = pl → j < fuel → mX11_share_L43 now (nI a) up (nI pl) fuel (nI ((E.take k).countP (fun e => decide (e.2 / 10 = a)))) (nI k) = mX11_share_J77 now (nI a) up (nI ((E.take pl).countP (fun e => decide (e.2 / 10 = a)))) := by
  have hle := hE.1
  intro j
  induction j with
  | zero =>
    intro k fuel hk hf
    obtain ⟨m, rfl⟩ := fuel_s hf
    rw [mX11_share_L43, if_pos (nI_le_t (by omega) (by omega)), show k = pl by omega]
  | succ j ih =>
    intro k fuel hk hf
    obtain ⟨m, rfl⟩ := fuel_s hf
    have hkl : k < E.length := by omega
    have he := List.getElem?_eq_getElem hkl
    have ef : mX11_fromOf now 0 (nI k) = some (nI (E[k].2 / 10)) := md_from hd hE he
    have h80 := (hE.2.1 _ (List.mem_of_getElem? he)).2.1
    have et : (E.take (k + 1)).countP (fun e => decide (e.2 / 10 = a)) = (E.take k).countP (fun e => decide (e.2 / 10 = a)) + if E[k].2 / 10 = a then 1 else 0 := by
      rw [List.take_succ, he, List.countP_append]
      congr 1
      show List.countP _ [E[k]] = _
      by_cases hc : E[k].2 / 10 = a
      · rw [if_pos hc, List.countP_cons_of_pos (by exact decide_eq_true hc)]; rfl
      · rw [if_neg hc, List.countP_cons_of_neg (by rw [decide_eq_true_eq]; exact hc)]; rfl
    rw [mX11_share_L43, if_neg (nI_le_f (by omega) (by omega)), ef, Option.bind_some, nI_1, nI_1]
    by_cases hc : E[k].2 / 10 = a
    · rw [if_pos (by rw [hc])]
      rw [if_pos hc] at et
      rw [← et]
      exact ih (k + 1) m (by omega) (by omega)
    · rw [if_neg (fun q => hc ((nI_eq (by omega) (by omega)).mp q)), show nI ((E.take k).countP (fun e => decide (e.2 / 10 = a))) + 0 = nI ((E.take k).countP (fun e => decide (e.2 / 10 = a))) from Int32.add_zero _]
      have et' : (E.take (k + 1)).countP (fun e => decide (e.2 / 10 = a)) = (E.take k).countP (fun e => decide (e.2 / 10 = a)) := by rw [et, if_neg hc]; rfl
      rw [← et']
      exact ih (k + 1) m (by omega) (by omega)
theorem both_share (h : edR sz f E) (hd : mdR now 0 E nx) (hE : okE E) (h1 : 1 ≤ n) (h8 : n ≤ 8) (p1 p2 : Int32) (up : Bool) : ∃ r, mX10_share (nI n) sz f p1 p2 up = some r ∧ mX11_share (nI n) now p1 p2 up = some r := by
  rw [mX10_share, mX11_share]
  rcases knots_n h1 h8 p1 p2 with ⟨a, b, ha, hb, rfl, rfl, q0, q1, q2⟩ | ⟨q0, q⟩
  · have ha8 : a < 8 := by omega
    have hb8 : b < 8 := by omega
    have hle := hE.1
    have ef : mX11_find now 0 (nI a) (nI b) = some (plcP (ePr E) (10 * a + b)) := md_find hd hE (by omega) (by omega)
    rw [if_pos q0, if_pos q1, if_pos q2, ed_has h hE ha8 hb8, Option.bind_some, ef, Option.bind_some]
    by_cases hp : 10 * a + b ∈ ePr E
    · have hil := idx_lt hp
      have e9 : plcP (ePr E) (10 * a + b) = nI ((ePr E).idxOf (10 * a + b)) := if_pos hp
      have h9 : ¬ plcP (ePr E) (10 * a + b) = -9 := by rw [e9, i_ne9 (by omega)]; exact id
      obtain ⟨g, eg, bg⟩ := ed_grid h hE
      have hg := gE_pE hE bg
      rw [if_pos (decide_eq_true hp), if_neg h9, e9, eg, Option.bind_some]
      -- where the edge stands among its knot's
      obtain ⟨e, he, hep⟩ := ePr_get hp
      have hi : (tg E a)[(E.take ((ePr E).idxOf (10 * a + b))).countP (fun e => decide (e.2 / 10 = a))]? = some b := by
        refine (tg_i hE).mpr ⟨(ePr E).idxOf (10 * a + b), ?_, hb8, tg_cnt _⟩
        rw [ePr, List.getElem?_map]
        show Option.map Prod.snd E[(ePr E).idxOf (10 * a + b)]? = _
        rw [he, ← hep]; rfl
      have h8' : ∀ x, x ∈ tg E a → x < 8 := fun x hx => tg_8 hE hx
      have h7 := tg_len hE ha8
      have hcl := count_l hd hE ha8 up (Nat.le_of_lt hil) ((ePr E).idxOf (10 * a + b)) 0 kFU (by omega) (kFU_b (by omega))
      have hcl' : mX11_share_L43 now (nI a) up (nI ((ePr E).idxOf (10 * a + b))) kFU 0 0 = _ := hcl
      rw [hcl', mX11_share_J77, outOf_n hd hE ha8, Option.bind_some]
      generalize (E.take ((ePr E).idxOf (10 * a + b))).countP (fun e => decide (e.2 / 10 = a)) = idx at hi ⊢
      have hidx := (List.getElem?_eq_some_iff.mp hi).1
      have hgm := gain_m hg hd hE ha8 hi up (2 ^ (tg E a).length) 0 kFU 0 (by omega) (kFU_b (by have : 2 ^ (tg E a).length ≤ 2 ^ 7 := Nat.pow_le_pow_right (by decide) h7; omega))
      have hgm' : mX11_share_L91 now (nI a) up (nI idx) (nI (tg E a).length) kFU 0 0 = _ := hgm
      rw [hgm', Nat.zero_add]
      -- the class
      have hlb := line_tg hg hE ha8
      have hls := s8_line g ha8
      have hct : ct (mX5_line g (nI a)) = (tg E a).length := ct_all h8' (tg_nd hE) hls hlb
      have hrs : s8 (mX5_line g (nI a) &&& (mX5_only (nI b) ^^^ (-1))) := s8_andl hls _
      obtain ⟨M, hM, hrM⟩ := s8_nat hrs
      have hbl : bt (mX5_line g (nI a)) b = true := (hlb b).mpr (List.mem_of_getElem? hi)
      have hcd := ct_del hb8 hbl
      rw [hct, hrM] at hcd
      have hbM : ∀ i, i < 8 → (bt (nI M) i = true ↔ i ∈ tg E a ∧ i ≠ b) := by
        intro i hi8
        rw [← hrM, del_b _ hb8 (by omega), Bool.and_eq_true, hlb, Bool.not_eq_true', decide_eq_false_iff_not]
      have hgc := gain_c hg ha8 hb8 hM hrM (by omega) (M + 1) 0 kFU 0 (by omega) (kFU_b (by omega))
      have hgc' : mX1_gainInAllOrders_L24 g (nI a) (nI b) kFU 0 0 = _ := hgc
      have hperm : (LM (tg E a) (fun m => !m.testBit idx) 0 (2 ^ (tg E a).length)).Perm (LC M 0 (M + 1)) := by
        refine LC_perm h8' (tg_nd hE) hM (fun m hm => ?_) (fun t ht => ?_) (fun m => phi_s hE m)
        · rw [Bool.not_eq_true']
          constructor
          · intro h0 i hi8 hbi
            rw [hbM i hi8]
            obtain ⟨j, hj, hmj⟩ := (phi_b _ _ _ h8').mp hbi
            refine ⟨List.mem_of_getElem? hj, ?_⟩
            rintro rfl
            obtain ⟨w1, w2⟩ := List.getElem?_eq_some_iff.mp hj
            obtain ⟨w3, w4⟩ := List.getElem?_eq_some_iff.mp hi
            have : j = idx := (List.getElem_inj (h₀ := w1) (h₁ := w3) (tg_nd hE)).mp (w2.trans w4.symm)
            rw [this, h0] at hmj; cases hmj
          · intro hsub
            rw [Bool.eq_false_iff]
            intro hmt
            have := hsub b hb8 ((phi_b _ _ _ h8').mpr ⟨idx, hi, hmt⟩)
            exact ((hbM b hb8).mp this).2 rfl
        · rcases Nat.lt_or_ge t 8 with h | h
          · exact ((hbM t h).mp ht).1
          · rw [s8_of hM t h] at ht; cases ht
      have hck : ct (nI M) = (tg E a).length - 1 := by omega
      rw [mX1_gainInAllOrders, hgc', Option.bind_some, Nat.zero_add, bitCount_n hls, hct, fact_c (by omega), Option.bind_some, hck, ← sN_perm _ hperm]
      -- how great
      have hub : sN (gnF g a b ((tg E a).length - 1)) (LM (tg E a) (fun m => !m.testBit idx) 0 (2 ^ (tg E a).length)) < 2 ^ 31 := by
        rw [sN_perm _ hperm]
        have hl := LC_len M 0 (M + 1)
        have hx := sN_le (gnF g a b ((tg E a).length - 1)) 5760 (LC M 0 (M + 1)) fun x hx => by
          have hx' := (LC_mem hM).mp hx
          have hc : ct x ≤ (tg E a).length - 1 := by rw [← hck]; exact ct_le_of hx'.2
          have hf := fac_b ((tg E a).length - 1) (by omega) (ct x) (by omega)
          have hcr := (cr_c g a (x ||| mX5_only (nI b))).2
          show (cr g a (x ||| mX5_only (nI b)) - cr g a x) * fac (ct x) * fac ((tg E a).length - 1 - ct x) ≤ 5760
          rw [Nat.mul_assoc]
          exact Nat.le_trans (Nat.mul_le_mul (show cr g a (x ||| mX5_only (nI b)) - cr g a x ≤ 8 by omega) hf) (by decide)
        have hl2 : 5760 * (LC M 0 (M + 1)).length ≤ 5760 * 256 := Nat.mul_le_mul_left _ (by omega)
        omega
      obtain ⟨f0, f1⟩ := fac_7 (tg E a).length (by omega)
      refine ⟨_, by rw [least_c hub f0 f1]; rfl, ?_⟩
      have hlm := least_m hub f0 f1 up
      rw [mX11_share_J180, fact_m (by omega), Option.bind_some]
      refine Eq.trans ?_ hlm
      congr 1
    · rw [if_neg (by rw [decide_eq_true_eq]; exact hp), if_pos (show plcP (ePr E) (10 * a + b) = -9 from if_neg hp)]
      exact ⟨_, rfl, rfl⟩
  · rw [q0, if_f, ifk q]
    exact ⟨_, rfl, rfl⟩
end SR
