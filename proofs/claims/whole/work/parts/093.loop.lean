/-! the law: its loop, its entry -/
theorem m31 (x : Int32) : ∃ k, k < 32 ∧ x &&& 31 = nI k := by
  obtain ⟨v, -, rfl⟩ := wb_of32 x
  refine ⟨v % 32, Nat.mod_lt _ (by decide), ?_⟩
  refine b_ext fun i hi => ?_
  rw [b_and, show (31 : Int32) = nI (2 ^ 5 - 1) from rfl, bt_nI, bt_nI, bt_nI, show (32 : Nat) = 2 ^ 5 from rfl, Nat.testBit_mod_two_pow, Nat.testBit_two_pow_sub_one, decide_eq_true hi, Bool.true_and, Bool.true_and, Bool.true_and, Bool.and_comm]
theorem le_len {L i : Nat} (hL : L ≤ 2560) (hi : i ≤ 3000) (h : ¬ nI i > Int32.ofNat L - 5) : i + 4 < L := by
  have h1 : (Int32.ofNat L - 5).toInt = (L : Int) - 5 := by
    by_cases h5 : 5 ≤ L
    · have e : Int32.ofNat L - 5 = nI (L - 5) := nI_subN (b := 5) h5
      rw [e, nI_toInt (by omega)]; omega
    · have : L = 0 ∨ L = 1 ∨ L = 2 ∨ L = 3 ∨ L = 4 := by omega
      rcases this with rfl | rfl | rfl | rfl | rfl <;> decide
  have h2 : ¬ (Int32.ofNat L - 5) < nI i := h
  rw [Int32.lt_iff_toInt_lt, h1, nI_toInt (by omega)] at h2
  omega
set_option maxHeartbeats 4000000 in
set_option maxRecDepth 100000 in
theorem law_loop {p : Program} {l : Launch} {e : Env} {s : State} {m : MethodId} {below : List Frame} {meth : Method} {c : Code} {G : va_G} {cI cZ cE : ClassId} {b L : Nat} {xs : Nat → Int32} (X : kX p s m meth c cL_law 4 ret wsL_law RL G cI cZ cE #[Value.ref b]) (hX : va_X b L xs s s.heap) (hbl : b < s.heap.size) (hL : L ≤ 2560) {xa ya : Nat} : ∀ (N i B : Nat) (ws : va_W) (H : Heap) (locs : List Loc) (ls : Array Slot), L + 5 ≤ i + 5 * N → i ≤ L + 5 → B ≤ 25 + i → linv xa ya cI cZ cE B ws → va_P G vwCl ws H → va_D (lA s) ws → va_S (lA s) s.heap H locs → lv_has ls 4 [(3, .int (nI i)), (2, .ref ya), (1, .ref xa), (0, .ref b)] → W p l e room_1 s m #[Value.ref b] below meth c H locs 53 1477 (lw_Z below #[Value.ref b] s) (F0 m 18 ls []) := by
  have hx := X.1.1
  have hb := X.1.2.1
  have hts := X.1.2.2.2.2
  have hbA : ¬ lA s b := Nat.not_le.mpr hbl
  intro N
  induction N with
  | zero =>
    intro i B ws H locs ls hN hi hB hI hP hD hS hl
    refine lv_iload_n hx hb dL_law_18 rfl (lv_at hl 0 rfl) ?_
    refine lv_aload_n hx hb dL_law_19 rfl (lv_at hl 3 rfl) ?_
    refine va_slen hx hb hX hbl hbA hS dL_law_20 ?_
    refine lv_iconst (v := 5) hx hb dL_law_21 (by decide) ?_
    refine lv_isub hx hb dL_law_22 ?_
    refine lv_icmp_gt (tgt := 942) hx hb dL_law_23 (by decide) (fun c9 => ?_) (fun c9 => absurd (le_len hL (by omega) c9) (by omega))
    refine lv_iconst (v := 1) hx hb dL_law_942 (by decide) ?_
    refine va_forget (fun q hq => hS.2.2 q hq) ?_
    refine W.widen (k := 600000) (n := 7302250) (by omega) (by omega) ?_
    exact lw_ret hx hb X.2.1 X.2.2.1 dL_law_943
  | succ N ih =>
    intro i B ws H locs ls hN hi hB hI hP hD hS hl
    refine lv_iload_n hx hb dL_law_18 rfl (lv_at hl 0 rfl) ?_
    refine lv_aload_n hx hb dL_law_19 rfl (lv_at hl 3 rfl) ?_
    refine va_slen hx hb hX hbl hbA hS dL_law_20 ?_
    refine lv_iconst (v := 5) hx hb dL_law_21 (by decide) ?_
    refine lv_isub hx hb dL_law_22 ?_
    refine lv_icmp_gt (tgt := 942) hx hb dL_law_23 (by decide) (fun c9 => ?_) (fun c9 => ?_)
    · refine lv_iconst (v := 1) hx hb dL_law_942 (by decide) ?_
      refine va_forget (fun q hq => hS.2.2 q hq) ?_
      refine W.widen (k := 600000) (n := 7302250) (by omega) (by omega) ?_
      exact lw_ret hx hb X.2.1 X.2.2.1 dL_law_943
    · have hi4 : i + 4 < L := le_len hL (by omega) c9
      have hB9 : B < 900000 := by omega
      have KK : ∀ (B' : Nat) (ws' : va_W) (H' : Heap) (locs' : List Loc), B' ≤ B + 1 → linv xa ya cI cZ cE B' ws' → va_P G vwCl ws' H' → va_D (lA s) ws' → va_S (lA s) s.heap H' locs' → W p l e room_1 s m #[Value.ref b] below meth c H' locs' 53 1477 (lw_Z below #[Value.ref b] s) (F0 m 936 ls []) := by
        intro B' ws' H' locs' hB' hI' hP' hD' hS'
        refine lv_iinc (v := nI (i + 5)) (lv' := [(3, .int (nI (i + 5))), (2, .ref ya), (1, .ref xa), (0, .ref b)]) hx hb dL_law_936 hl (k := 0) rfl (nI_add i 5) (by decide) rfl (fun ls hl => ?_)
        refine lv_goto (tgt := 18) hx hb dL_law_939 (by decide) ?_
        exact ih (i + 5) B' ws' H' locs' ls (by omega) (by omega) (by omega) hI' hP' hD' hS' hl
      have hv0 : vp_in (nI i) L := vp_in_nI (by omega) (by omega)
      refine lv_aload_n hx hb dL_law_26 rfl (lv_at hl 3 rfl) ?_
      refine lv_iload_n hx hb dL_law_27 rfl (lv_at hl 0 rfl) ?_
      refine va_sld hx hb hX hbl hbA hS hv0 dL_law_28 ?_
      refine lv_bipush (v := 31) hx hb dL_law_29 (by decide) ?_
      refine lv_iand hx hb dL_law_31 ?_
      obtain ⟨k, hk, ek⟩ := m31 (xs (nI i).toNatClampNeg)
      rw [ek]
      have hk' : k = 0 ∨ k = 1 ∨ k = 2 ∨ k = 3 ∨ k = 4 ∨ k = 5 ∨ k = 6 ∨ k = 7 ∨ k = 8 ∨ k = 9 ∨ k = 10 ∨ k = 11 ∨ k = 12 ∨ k = 13 ∨ k = 14 ∨ k = 15 ∨ k = 16 ∨ k = 17 ∨ k = 18 ∨ k = 19 ∨ k = 20 ∨ k = 21 ∨ k = 22 ∨ k = 23 ∨ k = 24 ∨ 25 ≤ k := by omega
      rcases hk' with rfl | rfl | rfl | rfl | rfl | rfl | rfl | rfl | rfl | rfl | rfl | rfl | rfl | rfl | rfl | rfl | rfl | rfl | rfl | rfl | rfl | rfl | rfl | rfl | rfl | h25
      · refine lv_tableIn (off := 116) (tgt := 148) hx hb dL_law_32 (by decide) (by decide) (by decide) (by decide) ?_
        exact case_write X hX hbl hL hi4 hB9 hI hP hD hS hl (fun ws' H' locs' => KK (B + 1) ws' H' locs' (Nat.le_refl _))
      · refine lv_tableIn (off := 139) (tgt := 171) hx hb dL_law_32 (by decide) (by decide) (by decide) (by decide) ?_
        exact case_wipe X hX hbl hL hi4 hB9 hI hP hD hS hl (fun ws' H' locs' => KK (B + 1) ws' H' locs' (Nat.le_refl _))
      · refine lv_tableIn (off := 152) (tgt := 184) hx hb dL_law_32 (by decide) (by decide) (by decide) (by decide) ?_
        exact case_fault X hX hbl hL hi4 hB9 hI hP hD hS hl (fun ws' H' locs' => KK (B + 1) ws' H' locs' (Nat.le_refl _))
      · refine lv_tableIn (off := 165) (tgt := 197) hx hb dL_law_32 (by decide) (by decide) (by decide) (by decide) ?_
        exact case_graph X hX hbl hL hi4 hB9 hI hP hD hS hl (fun ws' H' locs' => KK (B + 1) ws' H' locs' (Nat.le_refl _))
      · refine lv_tableIn (off := 178) (tgt := 210) hx hb dL_law_32 (by decide) (by decide) (by decide) (by decide) ?_
        exact case_insert X hX hbl hL hi4 hB9 hI hP hD hS hl (fun ws' H' locs' => KK (B + 1) ws' H' locs' (Nat.le_refl _))
      · refine lv_tableIn (off := 211) (tgt := 243) hx hb dL_law_32 (by decide) (by decide) (by decide) (by decide) ?_
        exact case_delete X hX hbl hL hi4 hB9 hI hP hD hS hl (fun ws' H' locs' => KK (B + 1) ws' H' locs' (Nat.le_refl _))
      · refine lv_tableIn (off := 244) (tgt := 276) hx hb dL_law_32 (by decide) (by decide) (by decide) (by decide) ?_
        exact case_undo X hX hbl hL hi4 hB9 hI hP hD hS hl (fun ws' H' locs' => KK (B + 1) ws' H' locs' (Nat.le_refl _))
      · refine lv_tableIn (off := 257) (tgt := 289) hx hb dL_law_32 (by decide) (by decide) (by decide) (by decide) ?_
        exact case_stamp X hX hbl hL hi4 hB9 hI hP hD hS hl (fun ws' H' locs' => KK (B + 1) ws' H' locs' (Nat.le_refl _))
      · refine lv_tableIn (off := 290) (tgt := 322) hx hb dL_law_32 (by decide) (by decide) (by decide) (by decide) ?_
        exact case_edge X hX hbl hL hi4 hB9 hI hP hD hS hl (fun ws' H' locs' => KK (B + 1) ws' H' locs' (Nat.le_refl _))
      · refine lv_tableIn (off := 313) (tgt := 345) hx hb dL_law_32 (by decide) (by decide) (by decide) (by decide) ?_
        exact case_knot X hX hbl hL hi4 hB9 hI hP hD hS hl (fun ws' H' locs' => KK (B + 1) ws' H' locs' (Nat.le_refl _))
      · refine lv_tableIn (off := 346) (tgt := 378) hx hb dL_law_32 (by decide) (by decide) (by decide) (by decide) ?_
        exact case_nearest X hX hbl hL hi4 hB9 hI hP hD hS hl (fun ws' H' locs' => KK (B + 1) ws' H' locs' (Nat.le_refl _))
      · refine lv_tableIn (off := 379) (tgt := 411) hx hb dL_law_32 (by decide) (by decide) (by decide) (by decide) ?_
        exact case_would X hX hbl hL hi4 hB9 hI hP hD hS hl (fun ws' H' locs' => KK (B + 1) ws' H' locs' (Nat.le_refl _))
      · refine lv_tableIn (off := 412) (tgt := 444) hx hb dL_law_32 (by decide) (by decide) (by decide) (by decide) ?_
        exact case_showing X hX hbl hL hi4 hB9 hI hP hD hS hl (fun ws' H' locs' => KK (B + 1) ws' H' locs' (Nat.le_refl _))
      · refine lv_tableIn (off := 435) (tgt := 467) hx hb dL_law_32 (by decide) (by decide) (by decide) (by decide) ?_
        exact case_look X hX hbl hL hi4 hB9 hI hP hD hS hl (fun ws' H' locs' => KK (B + 1) ws' H' locs' (Nat.le_refl _))
      · refine lv_tableIn (off := 488) (tgt := 520) hx hb dL_law_32 (by decide) (by decide) (by decide) (by decide) ?_
        exact case_judge X hX hbl hL hi4 hB9 hI hP hD hS hl (fun ws' H' locs' => KK (B + 1) ws' H' locs' (Nat.le_refl _))
      · refine lv_tableIn (off := 551) (tgt := 583) hx hb dL_law_32 (by decide) (by decide) (by decide) (by decide) ?_
        exact case_see X hX hbl hL hi4 hB9 hI hP hD hS hl (fun ws' H' locs' => KK (B + 1) ws' H' locs' (Nat.le_refl _))
      · refine lv_tableIn (off := 594) (tgt := 626) hx hb dL_law_32 (by decide) (by decide) (by decide) (by decide) ?_
        exact case_unsee X hX hbl hL hi4 hB9 hI hP hD hS hl (fun ws' H' locs' => KK (B + 1) ws' H' locs' (Nat.le_refl _))
      · refine lv_tableIn (off := 607) (tgt := 639) hx hb dL_law_32 (by decide) (by decide) (by decide) (by decide) ?_
        exact case_missing X hX hbl hL hi4 hB9 hI hP hD hS hl (fun ws' H' locs' => KK (B + 1) ws' H' locs' (Nat.le_refl _))
      · refine lv_tableIn (off := 630) (tgt := 662) hx hb dL_law_32 (by decide) (by decide) (by decide) (by decide) ?_
        exact case_share X hX hbl hL hi4 hB9 hI hP hD hS hl (fun ws' H' locs' => KK (B + 1) ws' H' locs' (Nat.le_refl _))
      · refine lv_tableIn (off := 689) (tgt := 721) hx hb dL_law_32 (by decide) (by decide) (by decide) (by decide) ?_
        exact case_spared X hX hbl hL hi4 hB9 hI hP hD hS hl (fun ws' H' locs' => KK (B + 1) ws' H' locs' (Nat.le_refl _))
      · refine lv_tableIn (off := 758) (tgt := 790) hx hb dL_law_32 (by decide) (by decide) (by decide) (by decide) ?_
        exact case_seed X hX hbl hL hi4 hB9 hI hP hD hS hl (fun ws' H' locs' => KK (B + 1) ws' H' locs' (Nat.le_refl _))
      · refine lv_tableIn (off := 812) (tgt := 844) hx hb dL_law_32 (by decide) (by decide) (by decide) (by decide) ?_
        exact case_drawn X hX hbl hL hi4 hB9 hI hP hD hS hl (fun ws' H' locs' => KK (B + 1) ws' H' locs' (Nat.le_refl _))
      · refine lv_tableIn (off := 835) (tgt := 867) hx hb dL_law_32 (by decide) (by decide) (by decide) (by decide) ?_
        exact case_keep X hX hbl hL hi4 hB9 hI hP hD hS hl (fun ws' H' locs' => KK (B + 1) ws' H' locs' (Nat.le_refl _))
      · refine lv_tableIn (off := 858) (tgt := 890) hx hb dL_law_32 (by decide) (by decide) (by decide) (by decide) ?_
        exact case_again X hX hbl hL hi4 hB9 hI hP hD hS hl (fun ws' H' locs' => KK (B + 1) ws' H' locs' (Nat.le_refl _))
      · refine lv_tableIn (off := 881) (tgt := 913) hx hb dL_law_32 (by decide) (by decide) (by decide) (by decide) ?_
        exact case_count X hX hbl hL hi4 hB9 hI hP hD hS hl (fun ws' H' locs' => KK (B + 1) ws' H' locs' (Nat.le_refl _))
      · refine lv_tableOut (tgt := 936) hx hb dL_law_32 (Or.inr ?_) (by decide) ?_
        · rw [nI_toInt (by omega)]; omega
        · exact KK B ws H locs (Nat.le_succ _) hI hP hD hS
