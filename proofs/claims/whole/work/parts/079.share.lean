/-! share: both sides alike -/
theorem shl1 : ∀ r, r < 9 → (1 : Int32) <<< (nI r &&& 31) = nI (2 ^ r) := by decide +kernel
theorem fac_b : ∀ k, k < 7 → ∀ c, c < k + 1 → fac c * fac (k - c) ≤ 720 := by decide +kernel
theorem fac_7 : ∀ k, k < 8 → 0 < fac k ∧ fac k < 100000000 := by decide +kernel
section SR
variable {sz : Int32} {f : Nat → Int32} {E : List (Nat × Nat)} {now : Nat → Int32} {nx n a : Nat} {g : Int64}
/-- what one order's sets before an edge bring -/
def gnF (g : Int64) (a b k : Nat) (x : Int32) : Nat := (cr g a (x ||| mX5_only (nI b)) - cr g a x) * fac (ct x) * fac (k - ct x)
theorem line_tg (hg : gE g = pE (ePr E)) (hE : okE E) (ha : a < 8) (t : Nat) : bt (mX5_line g (nI a)) t = true ↔ t ∈ tg E a := by
  rw [gE_line ha, hg, tg_mem hE]
  exact ⟨fun h => h.2, fun h => ⟨ha, h⟩⟩
theorem gain_c (hg : gE g = pE (ePr E)) (ha : a < 8) {b : Nat} (hb : b < 8) {M : Nat} (hM : M < 256) (hr : mX5_line g (nI a) &&& (mX5_only (nI b) ^^^ (-1)) = nI M) (h7 : ct (nI M) < 7) : ∀ (j k fuel A : Nat), k + j = M + 1 → j < fuel → mX1_gainInAllOrders_L24 g (nI a) (nI b) fuel (nI A) (nI k) = some (nI (A + sN (gnF g a b (ct (nI M))) (LC M k j))) := by
  intro j
  induction j with
  | zero =>
    intro k fuel A hk hf
    obtain ⟨m, rfl⟩ := fuel_s hf
    rw [mX1_gainInAllOrders_L24, hr, if_pos ((nI_ltI (by omega) (by omega)).mpr (by omega))]
    rfl
  | succ j ih =>
    intro k fuel A hk hf
    obtain ⟨m, rfl⟩ := fuel_s hf
    have hk8 : k < 256 := by omega
    have hs8 : s8 (nI k) := s8_of hk8
    rw [mX1_gainInAllOrders_L24, hr, if_neg (fun q => by have := (nI_ltI (by omega) (by omega)).mp q; omega)]
    have hL : LC M k (j + 1) = if nI k &&& (nI M ^^^ (-1)) = 0 then nI k :: LC M (k + 1) j else LC M (k + 1) j := by
      unfold LC
      rw [List.range'_succ]
      by_cases h : nI k &&& (nI M ^^^ (-1)) = 0
      · rw [if_pos h, List.filter_cons_of_pos (by exact decide_eq_true h)]; rfl
      · rw [if_neg h, List.filter_cons_of_neg (by rw [decide_eq_true_eq]; exact h)]
    rw [hL]
    by_cases h : nI k &&& (nI M ^^^ (-1)) = 0
    · have hsub := (sub_iff hM hk8).mp h
      have hle : ct (nI k) ≤ ct (nI M) := ct_le_of hsub
      have hob : s8 (nI k ||| mX5_only (nI b)) := s8_or hs8 (s8_only hb)
      have hmono : cr g a (nI k) ≤ cr g a (nI k ||| mX5_only (nI b)) := cr_mono hg ha hs8 hob fun i _ q => by rw [b_or, q]; rfl
      rw [if_pos h, if_pos h, (cr_c g a _).1, Option.bind_some, (cr_c g a _).1, Option.bind_some, bitCount_n hs8, fact_c (by omega), Option.bind_some, bitCount_n (s8_of hM), nI_subN hle, fact_c (by omega), Option.bind_some, nI_subN hmono]
      rw [show nI (cr g a (nI k ||| mX5_only (nI b)) - cr g a (nI k)) * nI (fac (ct (nI k))) = nI ((cr g a (nI k ||| mX5_only (nI b)) - cr g a (nI k)) * fac (ct (nI k))) from pk_mul _ _]
      rw [show nI ((cr g a (nI k ||| mX5_only (nI b)) - cr g a (nI k)) * fac (ct (nI k))) * nI (fac (ct (nI M) - ct (nI k))) = nI ((cr g a (nI k ||| mX5_only (nI b)) - cr g a (nI k)) * fac (ct (nI k)) * fac (ct (nI M) - ct (nI k))) from pk_mul _ _, nI_add, nI_1, ih (k + 1) m _ (by omega) (by omega)]
      congr 2
      show _ = A + (gnF g a b (ct (nI M)) (nI k) + _)
      unfold gnF
      omega
    · rw [if_neg h, if_neg h, nI_1]
      exact ih (k + 1) m A (by omega) (by omega)
/-- the sets of places without one place -/
def LM (l : List Nat) (P : Nat → Bool) (k j : Nat) : List Int32 := ((List.range' k j).filter P).map (phi l)
theorem LM_s (l : List Nat) (P : Nat → Bool) (k j : Nat) : LM l P k (j + 1) = if P k = true then phi l k :: LM l P (k + 1) j else LM l P (k + 1) j := by
  unfold LM
  rw [List.range'_succ]
  by_cases h : P k = true
  · rw [if_pos h, List.filter_cons_of_pos h]; rfl
  · rw [if_neg h, List.filter_cons_of_neg h]
theorem phi_or {l : List Nat} (h8 : ∀ x, x ∈ l → x < 8) {i b : Nat} (hi : l[i]? = some b) (m : Nat) : phi l (m ||| 2 ^ i) = phi l m ||| mX5_only (nI b) := by
  have hb8 := h8 b (List.mem_of_getElem? hi)
  refine b_ext fun t _ => ?_
  rw [b_or, only_b (by omega), Bool.eq_iff_iff, phi_b _ _ _ h8, Bool.or_eq_true, phi_b _ _ _ h8, decide_eq_true_eq]
  constructor
  · rintro ⟨j, h1, h2⟩
    rw [Nat.testBit_or, Bool.or_eq_true, Nat.testBit_two_pow, decide_eq_true_eq] at h2
    rcases h2 with h2 | h2
    · exact Or.inl ⟨j, h1, h2⟩
    · subst h2
      rw [hi] at h1
      exact Or.inr (Option.some.inj h1).symm
  · rintro (⟨j, h1, h2⟩ | h)
    · exact ⟨j, h1, by rw [Nat.testBit_or, h2]; rfl⟩
    · subst h
      exact ⟨i, hi, by rw [Nat.testBit_or, Nat.testBit_two_pow, decide_eq_true rfl, Bool.or_true]⟩
theorem gain_m (hg : gE g = pE (ePr E)) (hd : mdR now 0 E nx) (hE : okE E) (ha : a < 8) {b idx : Nat} (hi : (tg E a)[idx]? = some b) (up : Bool) : ∀ (j k fuel A : Nat), k + j = 2 ^ (tg E a).length → j < fuel → mX11_share_L91 now (nI a) up (nI idx) (nI (tg E a).length) fuel (nI A) (nI k) = mX11_share_J180 up (nI (tg E a).length) (nI (A + sN (gnF g a b ((tg E a).length - 1)) (LM (tg E a) (fun m => !m.testBit idx) k j))) := by
  have h7 := tg_len hE ha
  have h8 : ∀ x, x ∈ tg E a → x < 8 := fun x hx => tg_8 hE hx
  have hil := (List.getElem?_eq_some_iff.mp hi).1
  have hb8 := h8 b (List.mem_of_getElem? hi)
  have hp : 2 ^ (tg E a).length ≤ 2 ^ 7 := Nat.pow_le_pow_right (by decide) h7
  intro j
  induction j with
  | zero =>
    intro k fuel A hk hf
    obtain ⟨m, rfl⟩ := fuel_s hf
    rw [mX11_share_L91, shl1 _ (by omega), if_pos (nI_le_t (by omega) (by omega))]
    rfl
  | succ j ih =>
    intro k fuel A hk hf
    obtain ⟨m, rfl⟩ := fuel_s hf
    rw [mX11_share_L91, shl1 _ (by omega), if_neg (nI_le_f (by omega) (by omega)), has_n _ (by omega), bt_nI, decide_eq_true (show idx < 32 by omega), Bool.true_and, LM_s]
    by_cases ht : k.testBit idx = true
    · rw [if_pos ht, if_neg (by rw [ht]; decide), nI_1]
      exact ih (k + 1) m A (by omega) (by omega)
    · have hs := phi_s (a := a) hE k
      have hob : s8 (phi (tg E a) k ||| mX5_only (nI b)) := s8_or hs (s8_only hb8)
      have hmono : cr g a (phi (tg E a) k) ≤ cr g a (phi (tg E a) k ||| mX5_only (nI b)) := cr_mono hg ha hs hob fun i _ q => by rw [b_or, q]; rfl
      have ek : ct (nI k) = pc (tg E a).length k := pc_ct (by omega) (by omega)
      have ephi : ct (phi (tg E a) k) = pc (tg E a).length k := ct_phi _ _ h8 (tg_nd hE)
      have hcl : pc (tg E a).length k ≤ (tg E a).length - 1 := by
        have h2 : ct (phi (tg E a) k ||| mX5_only (nI b)) = pc (tg E a).length k + 1 := by
          rw [ct_or, ephi, ct_only b hb8]
          intro i _ q
          rw [only_b (by omega), decide_eq_false_iff_not]
          rintro rfl
          obtain ⟨jj, hj1, hj2⟩ := (phi_b _ _ _ h8).mp q
          have : jj = idx := by
            obtain ⟨w1, w2⟩ := List.getElem?_eq_some_iff.mp hj1
            obtain ⟨w3, w4⟩ := List.getElem?_eq_some_iff.mp hi
            exact (List.getElem_inj (h₀ := w1) (h₁ := w3) (tg_nd hE)).mp (w2.trans w4.symm)
          rw [this] at hj2
          exact ht hj2
        rw [← phi_or h8 hi, ct_phi _ _ h8 (tg_nd hE)] at h2
        have := pc_le (tg E a).length (k ||| 2 ^ idx)
        omega
      have hk2 : k ||| 2 ^ idx < 2 ^ 31 := by
        have := Nat.or_lt_two_pow (n := 8) (show k < 2 ^ 8 by omega) (Nat.pow_lt_pow_right (a := 2) (by decide) (show idx < 8 by omega))
        omega
      have eor : nI k ||| nI (2 ^ idx) = nI (k ||| 2 ^ idx) := by
        refine b_ext fun i hi => ?_
        rw [b_or, bt_nI, bt_nI, bt_nI, Nat.testBit_or, decide_eq_true hi]; rfl
      obtain ⟨r1, c1, o1⟩ := cr_m hg hd hE ha hk2
      obtain ⟨r0, c0, o0⟩ := cr_m hg hd hE ha (show k < 2 ^ 31 by omega)
      rw [phi_or h8 hi] at o1
      rw [if_neg ht, ones_n, Option.bind_some, ek, fact_m (by omega), Option.bind_some, Option.bind_some, i_pred (by omega), nI_subN hcl, fact_m (by omega), Option.bind_some, shl1 idx (by omega), eor, c1, Option.bind_some, o1, Option.bind_some, c0, Option.bind_some, o0, Option.bind_some, nI_subN hmono]
      rw [show nI (fac (pc (tg E a).length k)) * nI (fac ((tg E a).length - 1 - pc (tg E a).length k)) = nI (fac (pc (tg E a).length k) * fac ((tg E a).length - 1 - pc (tg E a).length k)) from pk_mul _ _]
      rw [show nI (fac (pc (tg E a).length k) * fac ((tg E a).length - 1 - pc (tg E a).length k)) * nI (cr g a (phi (tg E a) k ||| mX5_only (nI b)) - cr g a (phi (tg E a) k)) = nI (fac (pc (tg E a).length k) * fac ((tg E a).length - 1 - pc (tg E a).length k) * (cr g a (phi (tg E a) k ||| mX5_only (nI b)) - cr g a (phi (tg E a) k))) from pk_mul _ _, nI_add, nI_1, ih (k + 1) m _ (by omega) (by omega), if_pos (by rw [Bool.eq_false_iff.mpr ht]; rfl)]
      congr 2
      show _ = A + (gnF g a b ((tg E a).length - 1) (phi (tg E a) k) + _)
      unfold gnF
      rw [ephi, Nat.mul_assoc (cr g a _ - cr g a _), Nat.mul_comm (cr g a _ - cr g a _)]
      omega
end SR
