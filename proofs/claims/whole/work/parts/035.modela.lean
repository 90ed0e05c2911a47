/-! CoverOrderModel in -/
set_option maxRecDepth 100000 in
set_option maxHeartbeats 4000000 in
theorem c_X11_in (l : Launch) (G : va_G) (cI cZ cE : ClassId) (p0 : Int64) (p2 : Int64) (p4 : Int64) (R : Bool) (hm : mX11_in p0 p2 p4 = R) : kM l yX11_in wsX11_in { frames := 0, cells := 0, slots := 0, locals := 0 } G cI cZ cE [.long p0, .long p2, .long p4] [] [] (some (.int (bI R))) := by
  refine kM_of cX11_in 6 (some .boolean) RX11 (by decide) rfl rfl (Nat.le_of_ble_eq_true rfl) ?_
  intro p e s m below meth c A ls X hA hP hD hS hl
  have hx := X.1.1
  have hb := X.1.2.1
  have hts := X.1.2.2.2.2
  have hown := X.1.2.2.2.1
  have hK := X.2.2.2.1
  have hl : lv_has ls 6 [(0, .long p0), (2, .long p2), (4, .long p4)] := hl
  rw [mX11_in] at hm
  refine lv_lload_n hx hb dX11_in_0 rfl (lv_at hl 0 rfl) ?_
  refine lv_lload_n hx hb dX11_in_1 rfl (lv_at hl 1 rfl) ?_
  refine W.lcmp hx hb dX11_in_2 ?_
  refine lv_if_lt (tgt := 17) hx hb dX11_in_3 (by decide) (fun c3 => ?_) (fun c3 => ?_)
  · rw [if_pos c3] at hm
    refine lv_iconst (v := 0) hx hb dX11_in_17 (by decide) ?_
    subst hm
    exact k_zret (v := false) X rfl dX11_in_18 hP hD hS
  · rw [if_neg c3] at hm
    refine lv_lload_n hx hb dX11_in_6 rfl (lv_at hl 0 rfl) ?_
    refine lv_lload hx hb dX11_in_7 (lv_at hl 2 rfl) ?_
    refine W.lcmp hx hb dX11_in_9 ?_
    refine lv_if_gt (tgt := 17) hx hb dX11_in_10 (by decide) (fun c10 => ?_) (fun c10 => ?_)
    · rw [if_pos c10] at hm
      refine lv_iconst (v := 0) hx hb dX11_in_17 (by decide) ?_
      subst hm
      exact k_zret (v := false) X rfl dX11_in_18 hP hD hS
    · rw [if_neg c10] at hm
      refine lv_iconst (v := 1) hx hb dX11_in_13 (by decide) ?_
      refine lv_goto (tgt := 18) hx hb dX11_in_14 (by decide) ?_
      subst hm
      exact k_zret (v := true) X rfl dX11_in_18 hP hD hS
theorem hd_X11_in : yX11_in.cls ≠ "java/lang/invoke/MethodHandle" ∧ yX11_in.cls ≠ "java/lang/invoke/VarHandle" ∧ (parseMethodDescriptor yX11_in.desc).map (fun d => d.parameters.length) = some 3 := by decide +kernel
/-! CoverOrderModel has -/
set_option maxRecDepth 100000 in
set_option maxHeartbeats 4000000 in
theorem c_X11_has (l : Launch) (G : va_G) (cI cZ cE : ClassId) (p0 : Int32) (p1 : Int32) (R : Bool) (hm : mX11_has p0 p1 = R) : kM l yX11_has wsX11_has { frames := 0, cells := 0, slots := 0, locals := 0 } G cI cZ cE [.int p0, .int p1] [] [] (some (.int (bI R))) := by
  refine kM_of cX11_has 2 (some .boolean) RX11 (by decide) rfl rfl (Nat.le_of_ble_eq_true rfl) ?_
  intro p e s m below meth c A ls X hA hP hD hS hl
  have hx := X.1.1
  have hb := X.1.2.1
  have hts := X.1.2.2.2.2
  have hown := X.1.2.2.2.1
  have hK := X.2.2.2.1
  have hl : lv_has ls 2 [(0, .int p0), (1, .int p1)] := hl
  rw [mX11_has] at hm
  refine lv_iload_n hx hb dX11_has_0 rfl (lv_at hl 0 rfl) ?_
  refine lv_iload_n hx hb dX11_has_1 rfl (lv_at hl 1 rfl) ?_
  refine lv_ishr hx hb dX11_has_2 ?_
  refine lv_iconst (v := 1) hx hb dX11_has_3 (by decide) ?_
  refine lv_iand hx hb dX11_has_4 ?_
  refine lv_iconst (v := 1) hx hb dX11_has_5 (by decide) ?_
  refine lv_icmp_ne (tgt := 13) hx hb dX11_has_6 (by decide) (fun c6 => ?_) (fun c6 => ?_)
  · rw [if_neg c6] at hm
    refine lv_iconst (v := 0) hx hb dX11_has_13 (by decide) ?_
    subst hm
    exact k_zret (v := false) X rfl dX11_has_14 hP hD hS
  · rw [if_pos c6] at hm
    refine lv_iconst (v := 1) hx hb dX11_has_9 (by decide) ?_
    refine lv_goto (tgt := 14) hx hb dX11_has_10 (by decide) ?_
    subst hm
    exact k_zret (v := true) X rfl dX11_has_14 hP hD hS
theorem hd_X11_has : yX11_has.cls ≠ "java/lang/invoke/MethodHandle" ∧ yX11_has.cls ≠ "java/lang/invoke/VarHandle" ∧ (parseMethodDescriptor yX11_has.desc).map (fun d => d.parameters.length) = some 2 := by decide +kernel
/-! CoverOrderModel ones -/
set_option maxRecDepth 100000 in
set_option maxHeartbeats 4000000 in
theorem c_X11_ones (l : Launch) (G : va_G) (cI cZ cE : ClassId) (p0 : Int32) (R : Int32) (hm : mX11_ones p0 = some R) : kM l yX11_ones wsX11_ones { frames := 0, cells := 0, slots := 0, locals := 0 } G cI cZ cE [.int p0] [] [] (some (.int R)) := by
  refine kM_of cX11_ones 3 (some .int) RX11 (by decide) rfl rfl (Nat.le_of_ble_eq_true rfl) ?_
  intro p e s m below meth c A ls X hA hP hD hS hl
  have hx := X.1.1
  have hb := X.1.2.1
  have hts := X.1.2.2.2.2
  have hown := X.1.2.2.2.1
  have hK := X.2.2.2.1
  have hl : lv_has ls 3 [(0, .int p0)] := hl
  rw [mX11_ones] at hm
  refine lv_iconst (v := 0) hx hb dX11_ones_0 (by decide) ?_
  refine lv_istore_n (lv' := [(1, .int 0), (0, .int p0)]) hx hb dX11_ones_1 rfl hl (by decide) rfl (fun ls hl => ?_)
  refine lv_iconst (v := 0) hx hb dX11_ones_2 (by decide) ?_
  refine lv_istore_n (lv' := [(2, .int 0), (1, .int 0), (0, .int p0)]) hx hb dX11_ones_3 rfl hl (by decide) rfl (fun ls hl => ?_)
  have h4 : ∀ (n4 : Nat), ∀ (v4_1 : Int32) (v4_2 : Int32) (H : Heap) (locs : List Loc) (ls : Array Slot), va_P G vwCl [] H → va_D A [] → va_S A s.heap H locs → lv_has ls 3 [(0, .int p0), (1, .int v4_1), (2, .int v4_2)] → mX11_ones_L4 p0 n4 v4_1 v4_2 = some R → W p l e { frames := 0, cells := 0, slots := 0, locals := 0 } s m ([.int p0] : List Value).toArray below meth c H locs 0 0 (kQ below G [] (some (.int R)) A ([.int p0] : List Value).toArray s) (F0 m 4 ls []) := by
    intro n4
    induction n4 with
    | zero => intro v4_1 v4_2 H locs ls hP hD hS hl hm; rw [mX11_ones_L4] at hm; cases hm
    | succ n4 ih4 =>
      intro v4_1 v4_2 H locs ls hP hD hS hl hm
      rw [mX11_ones_L4] at hm
      refine lv_iload_n hx hb dX11_ones_4 rfl (lv_at hl 2 rfl) ?_
      refine lv_bipush (v := 8) hx hb dX11_ones_5 (by decide) ?_
      refine lv_icmp_ge (tgt := 24) hx hb dX11_ones_7 (by decide) (fun c7 => ?_) (fun c7 => ?_)
      · rw [if_pos c7] at hm
        refine lv_iload_n hx hb dX11_ones_24 rfl (lv_at hl 1 rfl) ?_
        have hm := Option.some.inj hm
        subst hm
        exact k_iret (v := v4_1) X rfl dX11_ones_25 hP hD hS
      · rw [if_neg c7] at hm
        refine lv_iload_n hx hb dX11_ones_10 rfl (lv_at hl 1 rfl) ?_
        refine lv_iload_n hx hb dX11_ones_11 rfl (lv_at hl 0 rfl) ?_
        refine lv_iload_n hx hb dX11_ones_12 rfl (lv_at hl 2 rfl) ?_
        refine lv_ishr hx hb dX11_ones_13 ?_
        refine lv_iconst (v := 1) hx hb dX11_ones_14 (by decide) ?_
        refine lv_iand hx hb dX11_ones_15 ?_
        refine lv_iadd hx hb dX11_ones_16 ?_
        refine lv_istore_n (lv' := [(1, .int (v4_1 + ((p0 >>> (v4_2 &&& 31)) &&& 1))), (0, .int p0), (2, .int v4_2)]) hx hb dX11_ones_17 rfl hl (by decide) rfl (fun ls hl => ?_)
        refine lv_iinc (v := v4_2 + 1) (lv' := [(2, .int (v4_2 + 1)), (1, .int (v4_1 + ((p0 >>> (v4_2 &&& 31)) &&& 1))), (0, .int p0)]) hx hb dX11_ones_18 hl (k := 2) rfl rfl (by decide) rfl (fun ls hl => ?_)
        refine lv_goto (tgt := 4) hx hb dX11_ones_21 (by decide) ?_
        exact ih4 (v4_1 + ((p0 >>> (v4_2 &&& 31)) &&& 1)) (v4_2 + 1) _ _ _ hP hD hS (lv_sub hl [2, 1, 0] rfl) hm
  exact h4 kFU 0 0 _ _ _ hP hD hS (lv_sub hl [2, 1, 0] rfl) hm
theorem hd_X11_ones : yX11_ones.cls ≠ "java/lang/invoke/MethodHandle" ∧ yX11_ones.cls ≠ "java/lang/invoke/VarHandle" ∧ (parseMethodDescriptor yX11_ones.desc).map (fun d => d.parameters.length) = some 1 := by decide +kernel
/-! CoverOrderModel write -/
set_option maxRecDepth 100000 in
set_option maxHeartbeats 4000000 in
theorem c_X11_write (l : Launch) (G : va_G) (cI cZ cE : ClassId) (a_t a_t_now a_t_text a_t_covers a_t_order a_t_way a_t_tried a_t_row a_t_lids a_t_shown a_t_seenKnot a_t_seenLid a_t_seenHad a_t_isKept a_t_kept : Nat) (k_t_knots : Int32) (k_t_readKnots : Int32) (k_t_length : Int32) (k_t_reached : Int32) (k_t_acts : Int32) (k_t_next : Int32) (k_t_seen : Int32) (k_t_seed : Int64) (f_t_text : Nat → Int32) (p1 : Int32) (R : Int32 × Int32 × (Nat → Int32)) (hm : mX11_write k_t_length f_t_text p1 = some R) : kM l yX11_write wsX11_write { frames := 1, cells := 0, slots := 0, locals := 25 } G cI cZ cE [.ref a_t, .int p1] [(a_t, .inr (8, [.int k_t_knots, .ref a_t_now, .int k_t_readKnots, .ref a_t_text, .int k_t_length, .ref a_t_covers, .int k_t_reached, .ref a_t_order, .ref a_t_way, .ref a_t_tried, .int k_t_acts, .int k_t_next, .ref a_t_row, .ref a_t_lids, .ref a_t_shown, .int k_t_seen, .ref a_t_seenKnot, .ref a_t_seenLid, .ref a_t_seenHad, .long k_t_seed, .ref a_t_isKept, .ref a_t_kept])), (a_t_text, .inl (cI, 64, .inl f_t_text))] [(a_t, .inr (8, [.int k_t_knots, .ref a_t_now, .int k_t_readKnots, .ref a_t_text, .int R.2.1, .ref a_t_covers, .int k_t_reached, .ref a_t_order, .ref a_t_way, .ref a_t_tried, .int k_t_acts, .int k_t_next, .ref a_t_row, .ref a_t_lids, .ref a_t_shown, .int k_t_seen, .ref a_t_seenKnot, .ref a_t_seenLid, .ref a_t_seenHad, .long k_t_seed, .ref a_t_isKept, .ref a_t_kept])), (a_t_text, .inl (cI, 64, .inl R.2.2))] (some (.int R.1)) := by
  refine kM_of cX11_write 2 (some .int) RX11 (by decide) rfl rfl (Nat.le_of_ble_eq_true rfl) ?_
  intro p e s m below meth c A ls X hA hP hD hS hl
  have hx := X.1.1
  have hb := X.1.2.1
  have hts := X.1.2.2.2.2
  have hown := X.1.2.2.2.1
  have hK := X.2.2.2.1
  have k_57 : (.constantLong RX11 57 (255) : Cond).before _ s = true := hts _ (List.mem_of_getElem? (i := 1) (by decide +kernel))
  have l_63 : (.fieldLink RX11 63 "CoverOrderModel" "length" "I" : Cond).before _ s = true := hts _ (List.mem_of_getElem? (i := 2) (by decide +kernel))
  have i_X11 : ∀ w ∈ u_ws RX11 TX11 22, w ∈ wsX11_write := k_in _ [8, 9, 10, 11, 12, 13, 14, 15, 16, 17, 18, 19, 20, 21, 22, 23, 24, 25, 26, 27, 28, 29] (by decide +kernel)
  have l_17 : (.fieldLink RX11 17 "CoverOrderModel" "text" "[I" : Cond).before _ s = true := hts _ (List.mem_of_getElem? (i := 3) (by decide +kernel))
  have hl : lv_has ls 2 [(0, .ref a_t), (1, .int p1)] := hl
  rw [mX11_write] at hm
  refine lv_iload_n hx hb dX11_write_0 rfl (lv_at hl 1 rfl) ?_
  refine lv_i2l (v := (p1 : Int32).toInt64) hx hb dX11_write_1 rfl ?_
  refine lv_lconst (v := 0) hx hb dX11_write_2 (by decide) ?_
  refine lv_ldc2 (v := 255) hx hb hown k_57 dX11_write_3 ?_
  refine kcS0 (st1 := [.int (bI (mX11_in ((p1 : Int32).toInt64) 0 255))]) X hA (c_X11_in l G cI cZ cE ((p1 : Int32).toInt64) 0 255 _ rfl) (va_cwS 3 hts gX11_write_X11_in rfl rfl rfl hd_X11_in ⟨Nat.le_of_ble_eq_true rfl, Nat.le_of_ble_eq_true rfl⟩) hl.1 dX11_write_6 hP hD hS [] rfl rfl rfl [] rfl (Nat.le_of_ble_eq_true rfl) rfl ⟨Nat.zero_le _, Nat.zero_le _⟩ (fun H locs hP hD hS => ?_)
  refine lv_if_ne (tgt := 15) hx hb dX11_write_9 (by decide) (fun c9 => ?_) (fun c9 => ?_)
  · have c9 := kb1 c9
    rw [if_pos c9] at hm
    refine lv_aload_n hx hb dX11_write_15 rfl (lv_at hl 0 rfl) ?_
    refine va_get (D := G) (ci := 8) (v := .int k_t_length) (C := RX11) (T := TX11) (N := 22) hx hb hts i_X11 hown hK hP 0 rfl rfl 4 (by decide) l_63 (fun _ h9 => h9) rfl dX11_write_16 ?_
    refine lv_bipush (v := 64) hx hb dX11_write_19 (by decide) ?_
    refine lv_icmp_ne (tgt := 27) hx hb dX11_write_21 (by decide) (fun c21 => ?_) (fun c21 => ?_)
    · rw [if_neg c21] at hm
      refine lv_aload_n hx hb dX11_write_27 rfl (lv_at hl 0 rfl) ?_
      refine va_get (D := G) (ci := 8) (v := .ref a_t_text) (C := RX11) (T := TX11) (N := 22) hx hb hts i_X11 hown hK hP 0 rfl rfl 3 (by decide) l_17 (fun _ h9 => h9) rfl dX11_write_28 ?_
      refine lv_aload_n hx hb dX11_write_31 rfl (lv_at hl 0 rfl) ?_
      refine va_get (D := G) (ci := 8) (v := .int k_t_length) (C := RX11) (T := TX11) (N := 22) hx hb hts i_X11 hown hK hP 0 rfl rfl 4 (by decide) l_63 (fun _ h9 => h9) rfl dX11_write_32 ?_
      refine lv_iload_n hx hb dX11_write_35 rfl (lv_at hl 1 rfl) ?_
      obtain ⟨g36, hm⟩ := gd_some hm
      refine va_iast hx hb hK hP hD hS 1 0 rfl rfl (kin_ok g36) dX11_write_36 (fun H locs hP hD hS => ?_)
      have hP : va_P G vwCl [(a_t, .inr (8, [.int k_t_knots, .ref a_t_now, .int k_t_readKnots, .ref a_t_text, .int k_t_length, .ref a_t_covers, .int k_t_reached, .ref a_t_order, .ref a_t_way, .ref a_t_tried, .int k_t_acts, .int k_t_next, .ref a_t_row, .ref a_t_lids, .ref a_t_shown, .int k_t_seen, .ref a_t_seenKnot, .ref a_t_seenLid, .ref a_t_seenHad, .long k_t_seed, .ref a_t_isKept, .ref a_t_kept])), (a_t_text, .inl (cI, 64, .inl (upd f_t_text (Int32.toNatClampNeg k_t_length) p1)))] H := hP
      have hD : va_D A [(a_t, .inr (8, [.int k_t_knots, .ref a_t_now, .int k_t_readKnots, .ref a_t_text, .int k_t_length, .ref a_t_covers, .int k_t_reached, .ref a_t_order, .ref a_t_way, .ref a_t_tried, .int k_t_acts, .int k_t_next, .ref a_t_row, .ref a_t_lids, .ref a_t_shown, .int k_t_seen, .ref a_t_seenKnot, .ref a_t_seenLid, .ref a_t_seenHad, .long k_t_seed, .ref a_t_isKept, .ref a_t_kept])), (a_t_text, .inl (cI, 64, .inl (upd f_t_text (Int32.toNatClampNeg k_t_length) p1)))] := hD
      refine lv_aload_n hx hb dX11_write_37 rfl (lv_at hl 0 rfl) ?_
      refine lv_dup hx hb dX11_write_38 rfl ?_
      refine va_get (D := G) (ci := 8) (v := .int k_t_length) (C := RX11) (T := TX11) (N := 22) hx hb hts i_X11 hown hK hP 0 rfl rfl 4 (by decide) l_63 (fun _ h9 => h9) rfl dX11_write_39 ?_
      refine lv_iconst (v := 1) hx hb dX11_write_42 (by decide) ?_
      refine lv_iadd hx hb dX11_write_43 ?_
      refine va_put (D := G) (ci := 8) (v := .int (k_t_length + 1)) (ty := .int) (C := RX11) (T := TX11) (N := 22) hx hb hts i_X11 tyX11 tyX11_ok nmX11 hown hK hP hD hS 0 rfl rfl 4 (by decide) l_63 (fun _ h9 => h9) rfl (by decide +kernel) rfl rfl (Nat.le_of_ble_eq_true rfl) dX11_write_44 (fun H locs hP hD hS => ?_)
      have hP : va_P G vwCl [(a_t, .inr (8, [.int k_t_knots, .ref a_t_now, .int k_t_readKnots, .ref a_t_text, .int (k_t_length + 1), .ref a_t_covers, .int k_t_reached, .ref a_t_order, .ref a_t_way, .ref a_t_tried, .int k_t_acts, .int k_t_next, .ref a_t_row, .ref a_t_lids, .ref a_t_shown, .int k_t_seen, .ref a_t_seenKnot, .ref a_t_seenLid, .ref a_t_seenHad, .long k_t_seed, .ref a_t_isKept, .ref a_t_kept])), (a_t_text, .inl (cI, 64, .inl (upd f_t_text (Int32.toNatClampNeg k_t_length) p1)))] H := hP
      have hD : va_D A [(a_t, .inr (8, [.int k_t_knots, .ref a_t_now, .int k_t_readKnots, .ref a_t_text, .int (k_t_length + 1), .ref a_t_covers, .int k_t_reached, .ref a_t_order, .ref a_t_way, .ref a_t_tried, .int k_t_acts, .int k_t_next, .ref a_t_row, .ref a_t_lids, .ref a_t_shown, .int k_t_seen, .ref a_t_seenKnot, .ref a_t_seenLid, .ref a_t_seenHad, .long k_t_seed, .ref a_t_isKept, .ref a_t_kept])), (a_t_text, .inl (cI, 64, .inl (upd f_t_text (Int32.toNatClampNeg k_t_length) p1)))] := hD
      refine lv_aload_n hx hb dX11_write_47 rfl (lv_at hl 0 rfl) ?_
      refine va_get (D := G) (ci := 8) (v := .int (k_t_length + 1)) (C := RX11) (T := TX11) (N := 22) hx hb hts i_X11 hown hK hP 0 rfl rfl 4 (by decide) l_63 (fun _ h9 => h9) rfl dX11_write_48 ?_
      have hm := Option.some.inj hm
      subst hm
      exact k_iret (v := k_t_length + 1) X rfl dX11_write_51 hP hD hS
    · rw [if_pos c21] at hm
      refine lv_bipush (v := (-4)) hx hb dX11_write_24 (by decide) ?_
      have hm := Option.some.inj hm
      subst hm
      exact k_iret (v := (-4)) X rfl dX11_write_26 hP hD hS
  · have c9 := kb0 c9
    rw [if_neg c9] at hm
    refine lv_bipush (v := (-2)) hx hb dX11_write_12 (by decide) ?_
    have hm := Option.some.inj hm
    subst hm
    exact k_iret (v := (-2)) X rfl dX11_write_14 hP hD hS
theorem hd_X11_write : yX11_write.cls = RX11 ∧ yX11_write.cls ≠ "java/lang/invoke/MethodHandle" ∧ yX11_write.cls ≠ "java/lang/invoke/VarHandle" ∧ (parseMethodDescriptor yX11_write.desc).map (fun d => d.parameters.length) = some 1 := by decide +kernel
/-! CoverOrderModel wipe -/
set_option maxRecDepth 100000 in
set_option maxHeartbeats 4000000 in
theorem c_X11_wipe (l : Launch) (G : va_G) (cI cZ cE : ClassId) (a_t a_t_now a_t_text a_t_covers a_t_order a_t_way a_t_tried a_t_row a_t_lids a_t_shown a_t_seenKnot a_t_seenLid a_t_seenHad a_t_isKept a_t_kept : Nat) (k_t_knots : Int32) (k_t_readKnots : Int32) (k_t_length : Int32) (k_t_reached : Int32) (k_t_acts : Int32) (k_t_next : Int32) (k_t_seen : Int32) (k_t_seed : Int64) (R : Int32 × Int32) (hm : mX11_wipe k_t_length = R) : kM l yX11_wipe wsX11_wipe { frames := 0, cells := 0, slots := 0, locals := 0 } G cI cZ cE [.ref a_t] [(a_t, .inr (8, [.int k_t_knots, .ref a_t_now, .int k_t_readKnots, .ref a_t_text, .int k_t_length, .ref a_t_covers, .int k_t_reached, .ref a_t_order, .ref a_t_way, .ref a_t_tried, .int k_t_acts, .int k_t_next, .ref a_t_row, .ref a_t_lids, .ref a_t_shown, .int k_t_seen, .ref a_t_seenKnot, .ref a_t_seenLid, .ref a_t_seenHad, .long k_t_seed, .ref a_t_isKept, .ref a_t_kept]))] [(a_t, .inr (8, [.int k_t_knots, .ref a_t_now, .int k_t_readKnots, .ref a_t_text, .int R.2, .ref a_t_covers, .int k_t_reached, .ref a_t_order, .ref a_t_way, .ref a_t_tried, .int k_t_acts, .int k_t_next, .ref a_t_row, .ref a_t_lids, .ref a_t_shown, .int k_t_seen, .ref a_t_seenKnot, .ref a_t_seenLid, .ref a_t_seenHad, .long k_t_seed, .ref a_t_isKept, .ref a_t_kept]))] (some (.int R.1)) := by
  refine kM_of cX11_wipe 2 (some .int) RX11 (by decide) rfl rfl (Nat.le_of_ble_eq_true rfl) ?_
  intro p e s m below meth c A ls X hA hP hD hS hl
  have hx := X.1.1
  have hb := X.1.2.1
  have hts := X.1.2.2.2.2
  have hown := X.1.2.2.2.1
  have hK := X.2.2.2.1
  have l_63 : (.fieldLink RX11 63 "CoverOrderModel" "length" "I" : Cond).before _ s = true := hts _ (List.mem_of_getElem? (i := 1) (by decide +kernel))
  have i_X11 : ∀ w ∈ u_ws RX11 TX11 22, w ∈ wsX11_wipe := k_in _ [2, 3, 4, 5, 6, 7, 8, 9, 10, 11, 12, 13, 14, 15, 16, 17, 18, 19, 20, 21, 22, 23] (by decide +kernel)
  have hl : lv_has ls 2 [(0, .ref a_t)] := hl
  rw [mX11_wipe] at hm
  refine lv_aload_n hx hb dX11_wipe_0 rfl (lv_at hl 0 rfl) ?_
  refine va_get (D := G) (ci := 8) (v := .int k_t_length) (C := RX11) (T := TX11) (N := 22) hx hb hts i_X11 hown hK hP 0 rfl rfl 4 (by decide) l_63 (fun _ h9 => h9) rfl dX11_wipe_1 ?_
  refine lv_istore_n (lv' := [(1, .int k_t_length), (0, .ref a_t)]) hx hb dX11_wipe_4 rfl hl (by decide) rfl (fun ls hl => ?_)
  refine lv_aload_n hx hb dX11_wipe_5 rfl (lv_at hl 1 rfl) ?_
  refine lv_iconst (v := 0) hx hb dX11_wipe_6 (by decide) ?_
  refine va_put (D := G) (ci := 8) (v := .int 0) (ty := .int) (C := RX11) (T := TX11) (N := 22) hx hb hts i_X11 tyX11 tyX11_ok nmX11 hown hK hP hD hS 0 rfl rfl 4 (by decide) l_63 (fun _ h9 => h9) rfl (by decide +kernel) rfl rfl (Nat.le_of_ble_eq_true rfl) dX11_wipe_7 (fun H locs hP hD hS => ?_)
  have hP : va_P G vwCl [(a_t, .inr (8, [.int k_t_knots, .ref a_t_now, .int k_t_readKnots, .ref a_t_text, .int 0, .ref a_t_covers, .int k_t_reached, .ref a_t_order, .ref a_t_way, .ref a_t_tried, .int k_t_acts, .int k_t_next, .ref a_t_row, .ref a_t_lids, .ref a_t_shown, .int k_t_seen, .ref a_t_seenKnot, .ref a_t_seenLid, .ref a_t_seenHad, .long k_t_seed, .ref a_t_isKept, .ref a_t_kept]))] H := hP
  have hD : va_D A [(a_t, .inr (8, [.int k_t_knots, .ref a_t_now, .int k_t_readKnots, .ref a_t_text, .int 0, .ref a_t_covers, .int k_t_reached, .ref a_t_order, .ref a_t_way, .ref a_t_tried, .int k_t_acts, .int k_t_next, .ref a_t_row, .ref a_t_lids, .ref a_t_shown, .int k_t_seen, .ref a_t_seenKnot, .ref a_t_seenLid, .ref a_t_seenHad, .long k_t_seed, .ref a_t_isKept, .ref a_t_kept]))] := hD
  refine lv_iload_n hx hb dX11_wipe_10 rfl (lv_at hl 0 rfl) ?_
  subst hm
  exact k_iret (v := k_t_length) X rfl dX11_wipe_11 hP hD hS
theorem hd_X11_wipe : yX11_wipe.cls = RX11 ∧ yX11_wipe.cls ≠ "java/lang/invoke/MethodHandle" ∧ yX11_wipe.cls ≠ "java/lang/invoke/VarHandle" ∧ (parseMethodDescriptor yX11_wipe.desc).map (fun d => d.parameters.length) = some 0 := by decide +kernel
/-! CoverOrderModel many -/
set_option maxRecDepth 100000 in
set_option maxHeartbeats 4000000 in
theorem c_X11_many (l : Launch) (G : va_G) (cI cZ cE : ClassId) (a_t a_t_now a_t_text a_t_covers a_t_order a_t_way a_t_tried a_t_row a_t_lids a_t_shown a_t_seenKnot a_t_seenLid a_t_seenHad a_t_isKept a_t_kept : Nat) (k_t_knots : Int32) (k_t_readKnots : Int32) (k_t_length : Int32) (k_t_reached : Int32) (k_t_acts : Int32) (k_t_next : Int32) (k_t_seen : Int32) (k_t_seed : Int64) (f_t_now : Nat → Int32) (p1 : Int32) (R : Int32) (hm : mX11_many f_t_now p1 = some R) : kM l yX11_many wsX11_many { frames := 0, cells := 0, slots := 0, locals := 0 } G cI cZ cE [.ref a_t, .int p1] [(a_t, .inr (8, [.int k_t_knots, .ref a_t_now, .int k_t_readKnots, .ref a_t_text, .int k_t_length, .ref a_t_covers, .int k_t_reached, .ref a_t_order, .ref a_t_way, .ref a_t_tried, .int k_t_acts, .int k_t_next, .ref a_t_row, .ref a_t_lids, .ref a_t_shown, .int k_t_seen, .ref a_t_seenKnot, .ref a_t_seenLid, .ref a_t_seenHad, .long k_t_seed, .ref a_t_isKept, .ref a_t_kept])), (a_t_now, .inl (cI, 100, .inl f_t_now))] [(a_t, .inr (8, [.int k_t_knots, .ref a_t_now, .int k_t_readKnots, .ref a_t_text, .int k_t_length, .ref a_t_covers, .int k_t_reached, .ref a_t_order, .ref a_t_way, .ref a_t_tried, .int k_t_acts, .int k_t_next, .ref a_t_row, .ref a_t_lids, .ref a_t_shown, .int k_t_seen, .ref a_t_seenKnot, .ref a_t_seenLid, .ref a_t_seenHad, .long k_t_seed, .ref a_t_isKept, .ref a_t_kept])), (a_t_now, .inl (cI, 100, .inl f_t_now))] (some (.int R)) := by
  refine kM_of cX11_many 2 (some .int) RX11 (by decide) rfl rfl (Nat.le_of_ble_eq_true rfl) ?_
  intro p e s m below meth c A ls X hA hP hD hS hl
  have hx := X.1.1
  have hb := X.1.2.1
  have hts := X.1.2.2.2.2
  have hown := X.1.2.2.2.1
  have hK := X.2.2.2.1
  have l_13 : (.fieldLink RX11 13 "CoverOrderModel" "now" "[I" : Cond).before _ s = true := hts _ (List.mem_of_getElem? (i := 1) (by decide +kernel))
  have i_X11 : ∀ w ∈ u_ws RX11 TX11 22, w ∈ wsX11_many := k_in _ [2, 3, 4, 5, 6, 7, 8, 9, 10, 11, 12, 13, 14, 15, 16, 17, 18, 19, 20, 21, 22, 23] (by decide +kernel)
  have hl : lv_has ls 2 [(0, .ref a_t), (1, .int p1)] := hl
  rw [mX11_many] at hm
  refine lv_aload_n hx hb dX11_many_0 rfl (lv_at hl 0 rfl) ?_
  refine va_get (D := G) (ci := 8) (v := .ref a_t_now) (C := RX11) (T := TX11) (N := 22) hx hb hts i_X11 hown hK hP 0 rfl rfl 1 (by decide) l_13 (fun _ h9 => h9) rfl dX11_many_1 ?_
  refine lv_bipush (v := 50) hx hb dX11_many_4 (by decide) ?_
  refine lv_iload_n hx hb dX11_many_6 rfl (lv_at hl 1 rfl) ?_
  refine lv_imul hx hb dX11_many_7 ?_
  refine lv_iconst (v := 0) hx hb dX11_many_8 (by decide) ?_
  refine lv_iadd hx hb dX11_many_9 ?_
  obtain ⟨g10, hm⟩ := gd_some hm
  refine va_iald hx hb hK hP 1 0 rfl rfl (kin_ok g10) dX11_many_10 ?_
  have hm := Option.some.inj hm
  subst hm
  exact k_iret (v := f_t_now (Int32.toNatClampNeg ((50 * p1) + 0))) X rfl dX11_many_11 hP hD hS
theorem hd_X11_many : yX11_many.cls = RX11 ∧ yX11_many.cls ≠ "java/lang/invoke/MethodHandle" ∧ yX11_many.cls ≠ "java/lang/invoke/VarHandle" ∧ (parseMethodDescriptor yX11_many.desc).map (fun d => d.parameters.length) = some 1 := by decide +kernel
/-! CoverOrderModel fromOf -/
set_option maxRecDepth 100000 in
set_option maxHeartbeats 4000000 in
theorem c_X11_fromOf (l : Launch) (G : va_G) (cI cZ cE : ClassId) (a_t a_t_now a_t_text a_t_covers a_t_order a_t_way a_t_tried a_t_row a_t_lids a_t_shown a_t_seenKnot a_t_seenLid a_t_seenHad a_t_isKept a_t_kept : Nat) (k_t_knots : Int32) (k_t_readKnots : Int32) (k_t_length : Int32) (k_t_reached : Int32) (k_t_acts : Int32) (k_t_next : Int32) (k_t_seen : Int32) (k_t_seed : Int64) (f_t_now : Nat → Int32) (p1 : Int32) (p2 : Int32) (R : Int32) (hm : mX11_fromOf f_t_now p1 p2 = some R) : kM l yX11_fromOf wsX11_fromOf { frames := 0, cells := 0, slots := 0, locals := 0 } G cI cZ cE [.ref a_t, .int p1, .int p2] [(a_t, .inr (8, [.int k_t_knots, .ref a_t_now, .int k_t_readKnots, .ref a_t_text, .int k_t_length, .ref a_t_covers, .int k_t_reached, .ref a_t_order, .ref a_t_way, .ref a_t_tried, .int k_t_acts, .int k_t_next, .ref a_t_row, .ref a_t_lids, .ref a_t_shown, .int k_t_seen, .ref a_t_seenKnot, .ref a_t_seenLid, .ref a_t_seenHad, .long k_t_seed, .ref a_t_isKept, .ref a_t_kept])), (a_t_now, .inl (cI, 100, .inl f_t_now))] [(a_t, .inr (8, [.int k_t_knots, .ref a_t_now, .int k_t_readKnots, .ref a_t_text, .int k_t_length, .ref a_t_covers, .int k_t_reached, .ref a_t_order, .ref a_t_way, .ref a_t_tried, .int k_t_acts, .int k_t_next, .ref a_t_row, .ref a_t_lids, .ref a_t_shown, .int k_t_seen, .ref a_t_seenKnot, .ref a_t_seenLid, .ref a_t_seenHad, .long k_t_seed, .ref a_t_isKept, .ref a_t_kept])), (a_t_now, .inl (cI, 100, .inl f_t_now))] (some (.int R)) := by
  refine kM_of cX11_fromOf 3 (some .int) RX11 (by decide) rfl rfl (Nat.le_of_ble_eq_true rfl) ?_
  intro p e s m below meth c A ls X hA hP hD hS hl
  have hx := X.1.1
  have hb := X.1.2.1
  have hts := X.1.2.2.2.2
  have hown := X.1.2.2.2.1
  have hK := X.2.2.2.1
  have l_13 : (.fieldLink RX11 13 "CoverOrderModel" "now" "[I" : Cond).before _ s = true := hts _ (List.mem_of_getElem? (i := 1) (by decide +kernel))
  have i_X11 : ∀ w ∈ u_ws RX11 TX11 22, w ∈ wsX11_fromOf := k_in _ [2, 3, 4, 5, 6, 7, 8, 9, 10, 11, 12, 13, 14, 15, 16, 17, 18, 19, 20, 21, 22, 23] (by decide +kernel)
  have hl : lv_has ls 3 [(0, .ref a_t), (1, .int p1), (2, .int p2)] := hl
  rw [mX11_fromOf] at hm
  refine lv_aload_n hx hb dX11_fromOf_0 rfl (lv_at hl 0 rfl) ?_
  refine va_get (D := G) (ci := 8) (v := .ref a_t_now) (C := RX11) (T := TX11) (N := 22) hx hb hts i_X11 hown hK hP 0 rfl rfl 1 (by decide) l_13 (fun _ h9 => h9) rfl dX11_fromOf_1 ?_
  refine lv_bipush (v := 50) hx hb dX11_fromOf_4 (by decide) ?_
  refine lv_iload_n hx hb dX11_fromOf_6 rfl (lv_at hl 1 rfl) ?_
  refine lv_imul hx hb dX11_fromOf_7 ?_
  refine lv_iconst (v := 2) hx hb dX11_fromOf_8 (by decide) ?_
  refine lv_iadd hx hb dX11_fromOf_9 ?_
  refine lv_iload_n hx hb dX11_fromOf_10 rfl (lv_at hl 2 rfl) ?_
  refine lv_iadd hx hb dX11_fromOf_11 ?_
  obtain ⟨g12, hm⟩ := gd_some hm
  refine va_iald hx hb hK hP 1 0 rfl rfl (kin_ok g12) dX11_fromOf_12 ?_
  refine lv_bipush (v := 10) hx hb dX11_fromOf_13 (by decide) ?_
  refine lv_idiv hx hb dX11_fromOf_15 (by decide) ?_
  have hm := Option.some.inj hm
  subst hm
  exact k_iret (v := (f_t_now (Int32.toNatClampNeg (((50 * p1) + 2) + p2))) / 10) X rfl dX11_fromOf_16 hP hD hS
theorem hd_X11_fromOf : yX11_fromOf.cls = RX11 ∧ yX11_fromOf.cls ≠ "java/lang/invoke/MethodHandle" ∧ yX11_fromOf.cls ≠ "java/lang/invoke/VarHandle" ∧ (parseMethodDescriptor yX11_fromOf.desc).map (fun d => d.parameters.length) = some 2 := by decide +kernel
/-! CoverOrderModel toOf -/
set_option maxRecDepth 100000 in
set_option maxHeartbeats 4000000 in
theorem c_X11_toOf (l : Launch) (G : va_G) (cI cZ cE : ClassId) (a_t a_t_now a_t_text a_t_covers a_t_order a_t_way a_t_tried a_t_row a_t_lids a_t_shown a_t_seenKnot a_t_seenLid a_t_seenHad a_t_isKept a_t_kept : Nat) (k_t_knots : Int32) (k_t_readKnots : Int32) (k_t_length : Int32) (k_t_reached : Int32) (k_t_acts : Int32) (k_t_next : Int32) (k_t_seen : Int32) (k_t_seed : Int64) (f_t_now : Nat → Int32) (p1 : Int32) (p2 : Int32) (R : Int32) (hm : mX11_toOf f_t_now p1 p2 = some R) : kM l yX11_toOf wsX11_toOf { frames := 0, cells := 0, slots := 0, locals := 0 } G cI cZ cE [.ref a_t, .int p1, .int p2] [(a_t, .inr (8, [.int k_t_knots, .ref a_t_now, .int k_t_readKnots, .ref a_t_text, .int k_t_length, .ref a_t_covers, .int k_t_reached, .ref a_t_order, .ref a_t_way, .ref a_t_tried, .int k_t_acts, .int k_t_next, .ref a_t_row, .ref a_t_lids, .ref a_t_shown, .int k_t_seen, .ref a_t_seenKnot, .ref a_t_seenLid, .ref a_t_seenHad, .long k_t_seed, .ref a_t_isKept, .ref a_t_kept])), (a_t_now, .inl (cI, 100, .inl f_t_now))] [(a_t, .inr (8, [.int k_t_knots, .ref a_t_now, .int k_t_readKnots, .ref a_t_text, .int k_t_length, .ref a_t_covers, .int k_t_reached, .ref a_t_order, .ref a_t_way, .ref a_t_tried, .int k_t_acts, .int k_t_next, .ref a_t_row, .ref a_t_lids, .ref a_t_shown, .int k_t_seen, .ref a_t_seenKnot, .ref a_t_seenLid, .ref a_t_seenHad, .long k_t_seed, .ref a_t_isKept, .ref a_t_kept])), (a_t_now, .inl (cI, 100, .inl f_t_now))] (some (.int R)) := by
  refine kM_of cX11_toOf 3 (some .int) RX11 (by decide) rfl rfl (Nat.le_of_ble_eq_true rfl) ?_
  intro p e s m below meth c A ls X hA hP hD hS hl
  have hx := X.1.1
  have hb := X.1.2.1
  have hts := X.1.2.2.2.2
  have hown := X.1.2.2.2.1
  have hK := X.2.2.2.1
  have l_13 : (.fieldLink RX11 13 "CoverOrderModel" "now" "[I" : Cond).before _ s = true := hts _ (List.mem_of_getElem? (i := 1) (by decide +kernel))
  have i_X11 : ∀ w ∈ u_ws RX11 TX11 22, w ∈ wsX11_toOf := k_in _ [2, 3, 4, 5, 6, 7, 8, 9, 10, 11, 12, 13, 14, 15, 16, 17, 18, 19, 20, 21, 22, 23] (by decide +kernel)
  have hl : lv_has ls 3 [(0, .ref a_t), (1, .int p1), (2, .int p2)] := hl
  rw [mX11_toOf] at hm
  refine lv_aload_n hx hb dX11_toOf_0 rfl (lv_at hl 0 rfl) ?_
  refine va_get (D := G) (ci := 8) (v := .ref a_t_now) (C := RX11) (T := TX11) (N := 22) hx hb hts i_X11 hown hK hP 0 rfl rfl 1 (by decide) l_13 (fun _ h9 => h9) rfl dX11_toOf_1 ?_
  refine lv_bipush (v := 50) hx hb dX11_toOf_4 (by decide) ?_
  refine lv_iload_n hx hb dX11_toOf_6 rfl (lv_at hl 1 rfl) ?_
  refine lv_imul hx hb dX11_toOf_7 ?_
  refine lv_iconst (v := 2) hx hb dX11_toOf_8 (by decide) ?_
  refine lv_iadd hx hb dX11_toOf_9 ?_
  refine lv_iload_n hx hb dX11_toOf_10 rfl (lv_at hl 2 rfl) ?_
  refine lv_iadd hx hb dX11_toOf_11 ?_
  obtain ⟨g12, hm⟩ := gd_some hm
  refine va_iald hx hb hK hP 1 0 rfl rfl (kin_ok g12) dX11_toOf_12 ?_
  refine lv_bipush (v := 10) hx hb dX11_toOf_13 (by decide) ?_
  refine lv_irem hx hb dX11_toOf_15 (by decide) ?_
  have hm := Option.some.inj hm
  subst hm
  exact k_iret (v := (f_t_now (Int32.toNatClampNeg (((50 * p1) + 2) + p2))) - (f_t_now (Int32.toNatClampNeg (((50 * p1) + 2) + p2))) / 10 * 10) X rfl dX11_toOf_16 hP hD hS
theorem hd_X11_toOf : yX11_toOf.cls = RX11 ∧ yX11_toOf.cls ≠ "java/lang/invoke/MethodHandle" ∧ yX11_toOf.cls ≠ "java/lang/invoke/VarHandle" ∧ (parseMethodDescriptor yX11_toOf.desc).map (fun d => d.parameters.length) = some 2 := by decide +kernel
/-! CoverOrderModel find -/
set_option maxRecDepth 100000 in
set_option maxHeartbeats 4000000 in
theorem c_X11_find (l : Launch) (G : va_G) (cI cZ cE : ClassId) (a_t a_t_now a_t_text a_t_covers a_t_order a_t_way a_t_tried a_t_row a_t_lids a_t_shown a_t_seenKnot a_t_seenLid a_t_seenHad a_t_isKept a_t_kept : Nat) (k_t_knots : Int32) (k_t_readKnots : Int32) (k_t_length : Int32) (k_t_reached : Int32) (k_t_acts : Int32) (k_t_next : Int32) (k_t_seen : Int32) (k_t_seed : Int64) (f_t_now : Nat → Int32) (p1 : Int32) (p2 : Int32) (p3 : Int32) (R : Int32) (hm : mX11_find f_t_now p1 p2 p3 = some R) : kM l yX11_find wsX11_find { frames := 1, cells := 0, slots := 0, locals := 21 } G cI cZ cE [.ref a_t, .int p1, .int p2, .int p3] [(a_t, .inr (8, [.int k_t_knots, .ref a_t_now, .int k_t_readKnots, .ref a_t_text, .int k_t_length, .ref a_t_covers, .int k_t_reached, .ref a_t_order, .ref a_t_way, .ref a_t_tried, .int k_t_acts, .int k_t_next, .ref a_t_row, .ref a_t_lids, .ref a_t_shown, .int k_t_seen, .ref a_t_seenKnot, .ref a_t_seenLid, .ref a_t_seenHad, .long k_t_seed, .ref a_t_isKept, .ref a_t_kept])), (a_t_now, .inl (cI, 100, .inl f_t_now))] [(a_t, .inr (8, [.int k_t_knots, .ref a_t_now, .int k_t_readKnots, .ref a_t_text, .int k_t_length, .ref a_t_covers, .int k_t_reached, .ref a_t_order, .ref a_t_way, .ref a_t_tried, .int k_t_acts, .int k_t_next, .ref a_t_row, .ref a_t_lids, .ref a_t_shown, .int k_t_seen, .ref a_t_seenKnot, .ref a_t_seenLid, .ref a_t_seenHad, .long k_t_seed, .ref a_t_isKept, .ref a_t_kept])), (a_t_now, .inl (cI, 100, .inl f_t_now))] (some (.int R)) := by
  refine kM_of cX11_find 6 (some .int) RX11 (by decide) rfl rfl (Nat.le_of_ble_eq_true rfl) ?_
  intro p e s m below meth c A ls X hA hP hD hS hl
  have hx := X.1.1
  have hb := X.1.2.1
  have hts := X.1.2.2.2.2
  have hown := X.1.2.2.2.1
  have hK := X.2.2.2.1
  have l_13 : (.fieldLink RX11 13 "CoverOrderModel" "now" "[I" : Cond).before _ s = true := hts _ (List.mem_of_getElem? (i := 1) (by decide +kernel))
  have i_X11 : ∀ w ∈ u_ws RX11 TX11 22, w ∈ wsX11_find := k_in _ [7, 8, 9, 10, 11, 12, 13, 14, 15, 16, 17, 18, 19, 20, 21, 22, 23, 24, 25, 26, 27, 28] (by decide +kernel)
  have hl : lv_has ls 6 [(0, .ref a_t), (1, .int p1), (2, .int p2), (3, .int p3)] := hl
  rw [mX11_find] at hm
  refine lv_bipush (v := (-9)) hx hb dX11_find_0 (by decide) ?_
  refine lv_istore (lv' := [(4, .int (-9)), (0, .ref a_t), (1, .int p1), (2, .int p2), (3, .int p3)]) hx hb dX11_find_2 hl (by decide) rfl (fun ls hl => ?_)
  refine lv_iconst (v := 0) hx hb dX11_find_4 (by decide) ?_
  refine lv_istore (lv' := [(5, .int 0), (4, .int (-9)), (0, .ref a_t), (1, .int p1), (2, .int p2), (3, .int p3)]) hx hb dX11_find_5 hl (by decide) rfl (fun ls hl => ?_)
  have h7 : ∀ (n7 : Nat), ∀ (v7_4 : Int32) (v7_5 : Int32) (H : Heap) (locs : List Loc) (ls : Array Slot), va_P G vwCl [(a_t, .inr (8, [.int k_t_knots, .ref a_t_now, .int k_t_readKnots, .ref a_t_text, .int k_t_length, .ref a_t_covers, .int k_t_reached, .ref a_t_order, .ref a_t_way, .ref a_t_tried, .int k_t_acts, .int k_t_next, .ref a_t_row, .ref a_t_lids, .ref a_t_shown, .int k_t_seen, .ref a_t_seenKnot, .ref a_t_seenLid, .ref a_t_seenHad, .long k_t_seed, .ref a_t_isKept, .ref a_t_kept])), (a_t_now, .inl (cI, 100, .inl f_t_now))] H → va_D A [(a_t, .inr (8, [.int k_t_knots, .ref a_t_now, .int k_t_readKnots, .ref a_t_text, .int k_t_length, .ref a_t_covers, .int k_t_reached, .ref a_t_order, .ref a_t_way, .ref a_t_tried, .int k_t_acts, .int k_t_next, .ref a_t_row, .ref a_t_lids, .ref a_t_shown, .int k_t_seen, .ref a_t_seenKnot, .ref a_t_seenLid, .ref a_t_seenHad, .long k_t_seed, .ref a_t_isKept, .ref a_t_kept])), (a_t_now, .inl (cI, 100, .inl f_t_now))] → va_S A s.heap H locs → lv_has ls 6 [(0, .ref a_t), (1, .int p1), (2, .int p2), (3, .int p3), (4, .int v7_4), (5, .int v7_5)] → mX11_find_L7 f_t_now p1 p2 p3 n7 v7_4 v7_5 = some R → W p l e { frames := 1, cells := 0, slots := 0, locals := 21 } s m ([.ref a_t, .int p1, .int p2, .int p3] : List Value).toArray below meth c H locs 0 0 (kQ below G [(a_t, .inr (8, [.int k_t_knots, .ref a_t_now, .int k_t_readKnots, .ref a_t_text, .int k_t_length, .ref a_t_covers, .int k_t_reached, .ref a_t_order, .ref a_t_way, .ref a_t_tried, .int k_t_acts, .int k_t_next, .ref a_t_row, .ref a_t_lids, .ref a_t_shown, .int k_t_seen, .ref a_t_seenKnot, .ref a_t_seenLid, .ref a_t_seenHad, .long k_t_seed, .ref a_t_isKept, .ref a_t_kept])), (a_t_now, .inl (cI, 100, .inl f_t_now))] (some (.int R)) A ([.ref a_t, .int p1, .int p2, .int p3] : List Value).toArray s) (F0 m 7 ls []) := by
    intro n7
    induction n7 with
    | zero => intro v7_4 v7_5 H locs ls hP hD hS hl hm; rw [mX11_find_L7] at hm; cases hm
    | succ n7 ih7 =>
      intro v7_4 v7_5 H locs ls hP hD hS hl hm
      rw [mX11_find_L7] at hm
      refine lv_iload hx hb dX11_find_7 (lv_at hl 5 rfl) ?_
      refine lv_aload_n hx hb dX11_find_9 rfl (lv_at hl 0 rfl) ?_
      refine lv_iload_n hx hb dX11_find_10 rfl (lv_at hl 1 rfl) ?_
      obtain ⟨r11, hc11, hm⟩ := kbind hm
      refine kcV0 (st1 := [.int r11, .int v7_5]) X hA (c_X11_many l G cI cZ cE a_t a_t_now a_t_text a_t_covers a_t_order a_t_way a_t_tried a_t_row a_t_lids a_t_shown a_t_seenKnot a_t_seenLid a_t_seenHad a_t_isKept a_t_kept k_t_knots k_t_readKnots k_t_length k_t_reached k_t_acts k_t_next k_t_seen k_t_seed f_t_now p1 r11 hc11) (cwV 1 hts gX11_find_X11_many rfl rfl rfl hd_X11_many ⟨Nat.le_of_ble_eq_true rfl, Nat.le_of_ble_eq_true rfl⟩) 0 8 rfl rfl hl.1 dX11_find_11 hP hD hS [0, 1] rfl rfl rfl [.int v7_5] rfl (Nat.le_of_ble_eq_true rfl) rfl ⟨Nat.zero_le _, Nat.zero_le _⟩ (fun H locs hP hD hS => ?_)
      refine lv_icmp_ge (tgt := 55) hx hb dX11_find_14 (by decide) (fun c14 => ?_) (fun c14 => ?_)
      · rw [if_pos c14] at hm
        refine lv_iload hx hb dX11_find_55 (lv_at hl 4 rfl) ?_
        have hm := Option.some.inj hm
        subst hm
        exact k_iret (v := v7_4) X rfl dX11_find_57 hP hD hS
      · rw [if_neg c14] at hm
        refine lv_aload_n hx hb dX11_find_17 rfl (lv_at hl 0 rfl) ?_
        refine va_get (D := G) (ci := 8) (v := .ref a_t_now) (C := RX11) (T := TX11) (N := 22) hx hb hts i_X11 hown hK hP 0 rfl rfl 1 (by decide) l_13 (fun _ h9 => h9) rfl dX11_find_18 ?_
        refine lv_bipush (v := 50) hx hb dX11_find_21 (by decide) ?_
        refine lv_iload_n hx hb dX11_find_23 rfl (lv_at hl 1 rfl) ?_
        refine lv_imul hx hb dX11_find_24 ?_
        refine lv_iconst (v := 2) hx hb dX11_find_25 (by decide) ?_
        refine lv_iadd hx hb dX11_find_26 ?_
        refine lv_iload hx hb dX11_find_27 (lv_at hl 5 rfl) ?_
        refine lv_iadd hx hb dX11_find_29 ?_
        obtain ⟨g30, hm⟩ := gd_some hm
        refine va_iald hx hb hK hP 1 0 rfl rfl (kin_ok g30) dX11_find_30 ?_
        refine lv_bipush (v := 10) hx hb dX11_find_31 (by decide) ?_
        refine lv_iload_n hx hb dX11_find_33 rfl (lv_at hl 2 rfl) ?_
        refine lv_imul hx hb dX11_find_34 ?_
        refine lv_iload_n hx hb dX11_find_35 rfl (lv_at hl 3 rfl) ?_
        refine lv_iadd hx hb dX11_find_36 ?_
        refine lv_icmp_ne (tgt := 45) hx hb dX11_find_37 (by decide) (fun c37 => ?_) (fun c37 => ?_)
        · rw [if_neg c37] at hm
          refine lv_iload hx hb dX11_find_45 (lv_at hl 4 rfl) ?_
          refine lv_istore (lv' := [(4, .int v7_4), (0, .ref a_t), (1, .int p1), (2, .int p2), (3, .int p3), (5, .int v7_5)]) hx hb dX11_find_47 hl (by decide) rfl (fun ls hl => ?_)
          refine lv_iinc (v := v7_5 + 1) (lv' := [(5, .int (v7_5 + 1)), (4, .int v7_4), (0, .ref a_t), (1, .int p1), (2, .int p2), (3, .int p3)]) hx hb dX11_find_49 hl (k := 5) rfl rfl (by decide) rfl (fun ls hl => ?_)
          refine lv_goto (tgt := 7) hx hb dX11_find_52 (by decide) ?_
          exact ih7 v7_4 (v7_5 + 1) _ _ _ hP hD hS (lv_sub hl [2, 3, 4, 5, 1, 0] rfl) hm
        · rw [if_pos c37] at hm
          refine lv_iload hx hb dX11_find_40 (lv_at hl 5 rfl) ?_
          refine lv_goto (tgt := 47) hx hb dX11_find_42 (by decide) ?_
          refine lv_istore (lv' := [(4, .int v7_5), (0, .ref a_t), (1, .int p1), (2, .int p2), (3, .int p3), (5, .int v7_5)]) hx hb dX11_find_47 hl (by decide) rfl (fun ls hl => ?_)
          refine lv_iinc (v := v7_5 + 1) (lv' := [(5, .int (v7_5 + 1)), (4, .int v7_5), (0, .ref a_t), (1, .int p1), (2, .int p2), (3, .int p3)]) hx hb dX11_find_49 hl (k := 5) rfl rfl (by decide) rfl (fun ls hl => ?_)
          refine lv_goto (tgt := 7) hx hb dX11_find_52 (by decide) ?_
          exact ih7 v7_5 (v7_5 + 1) _ _ _ hP hD hS (lv_sub hl [2, 3, 4, 5, 1, 0] rfl) hm
  exact h7 kFU (-9) 0 _ _ _ hP hD hS (lv_sub hl [2, 3, 4, 5, 1, 0] rfl) hm
theorem hd_X11_find : yX11_find.cls = RX11 ∧ yX11_find.cls ≠ "java/lang/invoke/MethodHandle" ∧ yX11_find.cls ≠ "java/lang/invoke/VarHandle" ∧ (parseMethodDescriptor yX11_find.desc).map (fun d => d.parameters.length) = some 3 := by decide +kernel
/-! CoverOrderModel outOf -/
set_option maxRecDepth 100000 in
set_option maxHeartbeats 4000000 in
theorem c_X11_outOf (l : Launch) (G : va_G) (cI cZ cE : ClassId) (a_t a_t_now a_t_text a_t_covers a_t_order a_t_way a_t_tried a_t_row a_t_lids a_t_shown a_t_seenKnot a_t_seenLid a_t_seenHad a_t_isKept a_t_kept : Nat) (k_t_knots : Int32) (k_t_readKnots : Int32) (k_t_length : Int32) (k_t_reached : Int32) (k_t_acts : Int32) (k_t_next : Int32) (k_t_seen : Int32) (k_t_seed : Int64) (f_t_now : Nat → Int32) (p1 : Int32) (p2 : Int32) (R : Int32) (hm : mX11_outOf f_t_now p1 p2 = some R) : kM l yX11_outOf wsX11_outOf { frames := 1, cells := 0, slots := 0, locals := 22 } G cI cZ cE [.ref a_t, .int p1, .int p2] [(a_t, .inr (8, [.int k_t_knots, .ref a_t_now, .int k_t_readKnots, .ref a_t_text, .int k_t_length, .ref a_t_covers, .int k_t_reached, .ref a_t_order, .ref a_t_way, .ref a_t_tried, .int k_t_acts, .int k_t_next, .ref a_t_row, .ref a_t_lids, .ref a_t_shown, .int k_t_seen, .ref a_t_seenKnot, .ref a_t_seenLid, .ref a_t_seenHad, .long k_t_seed, .ref a_t_isKept, .ref a_t_kept])), (a_t_now, .inl (cI, 100, .inl f_t_now))] [(a_t, .inr (8, [.int k_t_knots, .ref a_t_now, .int k_t_readKnots, .ref a_t_text, .int k_t_length, .ref a_t_covers, .int k_t_reached, .ref a_t_order, .ref a_t_way, .ref a_t_tried, .int k_t_acts, .int k_t_next, .ref a_t_row, .ref a_t_lids, .ref a_t_shown, .int k_t_seen, .ref a_t_seenKnot, .ref a_t_seenLid, .ref a_t_seenHad, .long k_t_seed, .ref a_t_isKept, .ref a_t_kept])), (a_t_now, .inl (cI, 100, .inl f_t_now))] (some (.int R)) := by
  refine kM_of cX11_outOf 5 (some .int) RX11 (by decide) rfl rfl (Nat.le_of_ble_eq_true rfl) ?_
  intro p e s m below meth c A ls X hA hP hD hS hl
  have hx := X.1.1
  have hb := X.1.2.1
  have hts := X.1.2.2.2.2
  have hown := X.1.2.2.2.1
  have hK := X.2.2.2.1
  have hl : lv_has ls 5 [(0, .ref a_t), (1, .int p1), (2, .int p2)] := hl
  rw [mX11_outOf] at hm
  refine lv_iconst (v := 0) hx hb dX11_outOf_0 (by decide) ?_
  refine lv_istore_n (lv' := [(3, .int 0), (0, .ref a_t), (1, .int p1), (2, .int p2)]) hx hb dX11_outOf_1 rfl hl (by decide) rfl (fun ls hl => ?_)
  refine lv_iconst (v := 0) hx hb dX11_outOf_2 (by decide) ?_
  refine lv_istore (lv' := [(4, .int 0), (3, .int 0), (0, .ref a_t), (1, .int p1), (2, .int p2)]) hx hb dX11_outOf_3 hl (by decide) rfl (fun ls hl => ?_)
  have h5 : ∀ (n5 : Nat), ∀ (v5_3 : Int32) (v5_4 : Int32) (H : Heap) (locs : List Loc) (ls : Array Slot), va_P G vwCl [(a_t, .inr (8, [.int k_t_knots, .ref a_t_now, .int k_t_readKnots, .ref a_t_text, .int k_t_length, .ref a_t_covers, .int k_t_reached, .ref a_t_order, .ref a_t_way, .ref a_t_tried, .int k_t_acts, .int k_t_next, .ref a_t_row, .ref a_t_lids, .ref a_t_shown, .int k_t_seen, .ref a_t_seenKnot, .ref a_t_seenLid, .ref a_t_seenHad, .long k_t_seed, .ref a_t_isKept, .ref a_t_kept])), (a_t_now, .inl (cI, 100, .inl f_t_now))] H → va_D A [(a_t, .inr (8, [.int k_t_knots, .ref a_t_now, .int k_t_readKnots, .ref a_t_text, .int k_t_length, .ref a_t_covers, .int k_t_reached, .ref a_t_order, .ref a_t_way, .ref a_t_tried, .int k_t_acts, .int k_t_next, .ref a_t_row, .ref a_t_lids, .ref a_t_shown, .int k_t_seen, .ref a_t_seenKnot, .ref a_t_seenLid, .ref a_t_seenHad, .long k_t_seed, .ref a_t_isKept, .ref a_t_kept])), (a_t_now, .inl (cI, 100, .inl f_t_now))] → va_S A s.heap H locs → lv_has ls 5 [(0, .ref a_t), (1, .int p1), (2, .int p2), (3, .int v5_3), (4, .int v5_4)] → mX11_outOf_L5 f_t_now p1 p2 n5 v5_3 v5_4 = some R → W p l e { frames := 1, cells := 0, slots := 0, locals := 22 } s m ([.ref a_t, .int p1, .int p2] : List Value).toArray below meth c H locs 0 0 (kQ below G [(a_t, .inr (8, [.int k_t_knots, .ref a_t_now, .int k_t_readKnots, .ref a_t_text, .int k_t_length, .ref a_t_covers, .int k_t_reached, .ref a_t_order, .ref a_t_way, .ref a_t_tried, .int k_t_acts, .int k_t_next, .ref a_t_row, .ref a_t_lids, .ref a_t_shown, .int k_t_seen, .ref a_t_seenKnot, .ref a_t_seenLid, .ref a_t_seenHad, .long k_t_seed, .ref a_t_isKept, .ref a_t_kept])), (a_t_now, .inl (cI, 100, .inl f_t_now))] (some (.int R)) A ([.ref a_t, .int p1, .int p2] : List Value).toArray s) (F0 m 5 ls []) := by
    intro n5
    induction n5 with
    | zero => intro v5_3 v5_4 H locs ls hP hD hS hl hm; rw [mX11_outOf_L5] at hm; cases hm
    | succ n5 ih5 =>
      intro v5_3 v5_4 H locs ls hP hD hS hl hm
      rw [mX11_outOf_L5] at hm
      refine lv_iload hx hb dX11_outOf_5 (lv_at hl 4 rfl) ?_
      refine lv_aload_n hx hb dX11_outOf_7 rfl (lv_at hl 0 rfl) ?_
      refine lv_iload_n hx hb dX11_outOf_8 rfl (lv_at hl 1 rfl) ?_
      obtain ⟨r9, hc9, hm⟩ := kbind hm
      refine kcV0 (st1 := [.int r9, .int v5_4]) X hA (c_X11_many l G cI cZ cE a_t a_t_now a_t_text a_t_covers a_t_order a_t_way a_t_tried a_t_row a_t_lids a_t_shown a_t_seenKnot a_t_seenLid a_t_seenHad a_t_isKept a_t_kept k_t_knots k_t_readKnots k_t_length k_t_reached k_t_acts k_t_next k_t_seen k_t_seed f_t_now p1 r9 hc9) (cwV 1 hts gX11_outOf_X11_many rfl rfl rfl hd_X11_many ⟨Nat.le_of_ble_eq_true rfl, Nat.le_of_ble_eq_true rfl⟩) 0 8 rfl rfl hl.1 dX11_outOf_9 hP hD hS [0, 1] rfl rfl rfl [.int v5_4] rfl (Nat.le_of_ble_eq_true rfl) rfl ⟨Nat.zero_le _, Nat.zero_le _⟩ (fun H locs hP hD hS => ?_)
      refine lv_icmp_ge (tgt := 40) hx hb dX11_outOf_12 (by decide) (fun c12 => ?_) (fun c12 => ?_)
      · rw [if_pos c12] at hm
        refine lv_iload_n hx hb dX11_outOf_40 rfl (lv_at hl 3 rfl) ?_
        have hm := Option.some.inj hm
        subst hm
        exact k_iret (v := v5_3) X rfl dX11_outOf_41 hP hD hS
      · rw [if_neg c12] at hm
        refine lv_iload_n hx hb dX11_outOf_15 rfl (lv_at hl 3 rfl) ?_
        refine lv_aload_n hx hb dX11_outOf_16 rfl (lv_at hl 0 rfl) ?_
        refine lv_iload_n hx hb dX11_outOf_17 rfl (lv_at hl 1 rfl) ?_
        refine lv_iload hx hb dX11_outOf_18 (lv_at hl 4 rfl) ?_
        obtain ⟨r20, hc20, hm⟩ := kbind hm
        refine kcV0 (st1 := [.int r20, .int v5_3]) X hA (c_X11_fromOf l G cI cZ cE a_t a_t_now a_t_text a_t_covers a_t_order a_t_way a_t_tried a_t_row a_t_lids a_t_shown a_t_seenKnot a_t_seenLid a_t_seenHad a_t_isKept a_t_kept k_t_knots k_t_readKnots k_t_length k_t_reached k_t_acts k_t_next k_t_seen k_t_seed f_t_now p1 v5_4 r20 hc20) (cwV 2 hts gX11_outOf_X11_fromOf rfl rfl rfl hd_X11_fromOf ⟨Nat.le_of_ble_eq_true rfl, Nat.le_of_ble_eq_true rfl⟩) 0 8 rfl rfl hl.1 dX11_outOf_20 hP hD hS [0, 1] rfl rfl rfl [.int v5_3] rfl (Nat.le_of_ble_eq_true rfl) rfl ⟨Nat.zero_le _, Nat.zero_le _⟩ (fun H locs hP hD hS => ?_)
        refine lv_iload_n hx hb dX11_outOf_23 rfl (lv_at hl 2 rfl) ?_
        refine lv_icmp_ne (tgt := 31) hx hb dX11_outOf_24 (by decide) (fun c24 => ?_) (fun c24 => ?_)
        · rw [if_neg c24] at hm
          refine lv_iconst (v := 0) hx hb dX11_outOf_31 (by decide) ?_
          refine lv_iadd hx hb dX11_outOf_32 ?_
          refine lv_istore_n (lv' := [(3, .int (v5_3 + 0)), (0, .ref a_t), (1, .int p1), (2, .int p2), (4, .int v5_4)]) hx hb dX11_outOf_33 rfl hl (by decide) rfl (fun ls hl => ?_)
          refine lv_iinc (v := v5_4 + 1) (lv' := [(4, .int (v5_4 + 1)), (3, .int (v5_3 + 0)), (0, .ref a_t), (1, .int p1), (2, .int p2)]) hx hb dX11_outOf_34 hl (k := 4) rfl rfl (by decide) rfl (fun ls hl => ?_)
          refine lv_goto (tgt := 5) hx hb dX11_outOf_37 (by decide) ?_
          exact ih5 (v5_3 + 0) (v5_4 + 1) _ _ _ hP hD hS (lv_sub hl [2, 3, 4, 1, 0] rfl) hm
        · rw [if_pos c24] at hm
          refine lv_iconst (v := 1) hx hb dX11_outOf_27 (by decide) ?_
          refine lv_goto (tgt := 32) hx hb dX11_outOf_28 (by decide) ?_
          refine lv_iadd hx hb dX11_outOf_32 ?_
          refine lv_istore_n (lv' := [(3, .int (v5_3 + 1)), (0, .ref a_t), (1, .int p1), (2, .int p2), (4, .int v5_4)]) hx hb dX11_outOf_33 rfl hl (by decide) rfl (fun ls hl => ?_)
          refine lv_iinc (v := v5_4 + 1) (lv' := [(4, .int (v5_4 + 1)), (3, .int (v5_3 + 1)), (0, .ref a_t), (1, .int p1), (2, .int p2)]) hx hb dX11_outOf_34 hl (k := 4) rfl rfl (by decide) rfl (fun ls hl => ?_)
          refine lv_goto (tgt := 5) hx hb dX11_outOf_37 (by decide) ?_
          exact ih5 (v5_3 + 1) (v5_4 + 1) _ _ _ hP hD hS (lv_sub hl [2, 3, 4, 1, 0] rfl) hm
  exact h5 kFU 0 0 _ _ _ hP hD hS (lv_sub hl [2, 3, 4, 1, 0] rfl) hm
theorem hd_X11_outOf : yX11_outOf.cls = RX11 ∧ yX11_outOf.cls ≠ "java/lang/invoke/MethodHandle" ∧ yX11_outOf.cls ≠ "java/lang/invoke/VarHandle" ∧ (parseMethodDescriptor yX11_outOf.desc).map (fun d => d.parameters.length) = some 2 := by decide +kernel
/-! CoverOrderModel insertOn -/
set_option maxRecDepth 100000 in
set_option maxHeartbeats 4000000 in
theorem c_X11_insertOn (l : Launch) (G : va_G) (cI cZ cE : ClassId) (a_t a_t_now a_t_text a_t_covers a_t_order a_t_way a_t_tried a_t_row a_t_lids a_t_shown a_t_seenKnot a_t_seenLid a_t_seenHad a_t_isKept a_t_kept : Nat) (k_t_knots : Int32) (k_t_readKnots : Int32) (k_t_length : Int32) (k_t_reached : Int32) (k_t_acts : Int32) (k_t_next : Int32) (k_t_seen : Int32) (k_t_seed : Int64) (f_t_now : Nat → Int32) (p1 : Int32) (p2 : Int32) (p3 : Int32) (R : (Nat → Int32)) (hm : mX11_insertOn f_t_now p1 p2 p3 = some R) : kM l yX11_insertOn wsX11_insertOn { frames := 0, cells := 0, slots := 0, locals := 0 } G cI cZ cE [.ref a_t, .int p1, .int p2, .int p3] [(a_t, .inr (8, [.int k_t_knots, .ref a_t_now, .int k_t_readKnots, .ref a_t_text, .int k_t_length, .ref a_t_covers, .int k_t_reached, .ref a_t_order, .ref a_t_way, .ref a_t_tried, .int k_t_acts, .int k_t_next, .ref a_t_row, .ref a_t_lids, .ref a_t_shown, .int k_t_seen, .ref a_t_seenKnot, .ref a_t_seenLid, .ref a_t_seenHad, .long k_t_seed, .ref a_t_isKept, .ref a_t_kept])), (a_t_now, .inl (cI, 100, .inl f_t_now))] [(a_t, .inr (8, [.int k_t_knots, .ref a_t_now, .int k_t_readKnots, .ref a_t_text, .int k_t_length, .ref a_t_covers, .int k_t_reached, .ref a_t_order, .ref a_t_way, .ref a_t_tried, .int k_t_acts, .int k_t_next, .ref a_t_row, .ref a_t_lids, .ref a_t_shown, .int k_t_seen, .ref a_t_seenKnot, .ref a_t_seenLid, .ref a_t_seenHad, .long k_t_seed, .ref a_t_isKept, .ref a_t_kept])), (a_t_now, .inl (cI, 100, .inl R))] none := by
  refine kM_of cX11_insertOn 5 none RX11 (by decide) rfl rfl (Nat.le_of_ble_eq_true rfl) ?_
  intro p e s m below meth c A ls X hA hP hD hS hl
  have hx := X.1.1
  have hb := X.1.2.1
  have hts := X.1.2.2.2.2
  have hown := X.1.2.2.2.1
  have hK := X.2.2.2.1
  have l_13 : (.fieldLink RX11 13 "CoverOrderModel" "now" "[I" : Cond).before _ s = true := hts _ (List.mem_of_getElem? (i := 1) (by decide +kernel))
  have i_X11 : ∀ w ∈ u_ws RX11 TX11 22, w ∈ wsX11_insertOn := k_in _ [2, 3, 4, 5, 6, 7, 8, 9, 10, 11, 12, 13, 14, 15, 16, 17, 18, 19, 20, 21, 22, 23] (by decide +kernel)
  have hl : lv_has ls 5 [(0, .ref a_t), (1, .int p1), (2, .int p2), (3, .int p3)] := hl
  rw [mX11_insertOn] at hm
  refine lv_bipush (v := 50) hx hb dX11_insertOn_0 (by decide) ?_
  refine lv_iload_n hx hb dX11_insertOn_2 rfl (lv_at hl 1 rfl) ?_
  refine lv_imul hx hb dX11_insertOn_3 ?_
  refine lv_istore (lv' := [(4, .int (50 * p1)), (0, .ref a_t), (1, .int p1), (2, .int p2), (3, .int p3)]) hx hb dX11_insertOn_4 hl (by decide) rfl (fun ls hl => ?_)
  refine lv_aload_n hx hb dX11_insertOn_6 rfl (lv_at hl 1 rfl) ?_
  refine va_get (D := G) (ci := 8) (v := .ref a_t_now) (C := RX11) (T := TX11) (N := 22) hx hb hts i_X11 hown hK hP 0 rfl rfl 1 (by decide) l_13 (fun _ h9 => h9) rfl dX11_insertOn_7 ?_
  refine lv_iload hx hb dX11_insertOn_10 (lv_at hl 0 rfl) ?_
  refine lv_iconst (v := 2) hx hb dX11_insertOn_12 (by decide) ?_
  refine lv_iadd hx hb dX11_insertOn_13 ?_
  refine lv_aload_n hx hb dX11_insertOn_14 rfl (lv_at hl 1 rfl) ?_
  refine va_get (D := G) (ci := 8) (v := .ref a_t_now) (C := RX11) (T := TX11) (N := 22) hx hb hts i_X11 hown hK hP 0 rfl rfl 1 (by decide) l_13 (fun _ h9 => h9) rfl dX11_insertOn_15 ?_
  refine lv_iload hx hb dX11_insertOn_18 (lv_at hl 0 rfl) ?_
  refine lv_iconst (v := 0) hx hb dX11_insertOn_20 (by decide) ?_
  refine lv_iadd hx hb dX11_insertOn_21 ?_
  obtain ⟨g22, hm⟩ := gd_some hm
  refine va_iald hx hb hK hP 1 0 rfl rfl (kin_ok g22) dX11_insertOn_22 ?_
  refine lv_iadd hx hb dX11_insertOn_23 ?_
  refine lv_bipush (v := 10) hx hb dX11_insertOn_24 (by decide) ?_
  refine lv_iload_n hx hb dX11_insertOn_26 rfl (lv_at hl 3 rfl) ?_
  refine lv_imul hx hb dX11_insertOn_27 ?_
  refine lv_iload_n hx hb dX11_insertOn_28 rfl (lv_at hl 4 rfl) ?_
  refine lv_iadd hx hb dX11_insertOn_29 ?_
  obtain ⟨g30, hm⟩ := gd_some hm
  refine va_iast hx hb hK hP hD hS 1 0 rfl rfl (kin_ok g30) dX11_insertOn_30 (fun H locs hP hD hS => ?_)
  have hP : va_P G vwCl [(a_t, .inr (8, [.int k_t_knots, .ref a_t_now, .int k_t_readKnots, .ref a_t_text, .int k_t_length, .ref a_t_covers, .int k_t_reached, .ref a_t_order, .ref a_t_way, .ref a_t_tried, .int k_t_acts, .int k_t_next, .ref a_t_row, .ref a_t_lids, .ref a_t_shown, .int k_t_seen, .ref a_t_seenKnot, .ref a_t_seenLid, .ref a_t_seenHad, .long k_t_seed, .ref a_t_isKept, .ref a_t_kept])), (a_t_now, .inl (cI, 100, .inl (upd f_t_now (Int32.toNatClampNeg (((50 * p1) + 2) + (f_t_now (Int32.toNatClampNeg ((50 * p1) + 0))))) ((10 * p2) + p3))))] H := hP
  have hD : va_D A [(a_t, .inr (8, [.int k_t_knots, .ref a_t_now, .int k_t_readKnots, .ref a_t_text, .int k_t_length, .ref a_t_covers, .int k_t_reached, .ref a_t_order, .ref a_t_way, .ref a_t_tried, .int k_t_acts, .int k_t_next, .ref a_t_row, .ref a_t_lids, .ref a_t_shown, .int k_t_seen, .ref a_t_seenKnot, .ref a_t_seenLid, .ref a_t_seenHad, .long k_t_seed, .ref a_t_isKept, .ref a_t_kept])), (a_t_now, .inl (cI, 100, .inl (upd f_t_now (Int32.toNatClampNeg (((50 * p1) + 2) + (f_t_now (Int32.toNatClampNeg ((50 * p1) + 0))))) ((10 * p2) + p3))))] := hD
  refine lv_aload_n hx hb dX11_insertOn_31 rfl (lv_at hl 1 rfl) ?_
  refine va_get (D := G) (ci := 8) (v := .ref a_t_now) (C := RX11) (T := TX11) (N := 22) hx hb hts i_X11 hown hK hP 0 rfl rfl 1 (by decide) l_13 (fun _ h9 => h9) rfl dX11_insertOn_32 ?_
  refine lv_iload hx hb dX11_insertOn_35 (lv_at hl 0 rfl) ?_
  refine lv_bipush (v := 26) hx hb dX11_insertOn_37 (by decide) ?_
  refine lv_iadd hx hb dX11_insertOn_39 ?_
  refine lv_aload_n hx hb dX11_insertOn_40 rfl (lv_at hl 1 rfl) ?_
  refine va_get (D := G) (ci := 8) (v := .ref a_t_now) (C := RX11) (T := TX11) (N := 22) hx hb hts i_X11 hown hK hP 0 rfl rfl 1 (by decide) l_13 (fun _ h9 => h9) rfl dX11_insertOn_41 ?_
  refine lv_iload hx hb dX11_insertOn_44 (lv_at hl 0 rfl) ?_
  refine lv_iconst (v := 0) hx hb dX11_insertOn_46 (by decide) ?_
  refine lv_iadd hx hb dX11_insertOn_47 ?_
  obtain ⟨g48, hm⟩ := gd_some hm
  refine va_iald hx hb hK hP 1 0 rfl rfl (kin_ok g48) dX11_insertOn_48 ?_
  refine lv_iadd hx hb dX11_insertOn_49 ?_
  refine lv_aload_n hx hb dX11_insertOn_50 rfl (lv_at hl 1 rfl) ?_
  refine va_get (D := G) (ci := 8) (v := .ref a_t_now) (C := RX11) (T := TX11) (N := 22) hx hb hts i_X11 hown hK hP 0 rfl rfl 1 (by decide) l_13 (fun _ h9 => h9) rfl dX11_insertOn_51 ?_
  refine lv_iload hx hb dX11_insertOn_54 (lv_at hl 0 rfl) ?_
  refine lv_iconst (v := 1) hx hb dX11_insertOn_56 (by decide) ?_
  refine lv_iadd hx hb dX11_insertOn_57 ?_
  obtain ⟨g58, hm⟩ := gd_some hm
  refine va_iald hx hb hK hP 1 0 rfl rfl (kin_ok g58) dX11_insertOn_58 ?_
  obtain ⟨g59, hm⟩ := gd_some hm
  refine va_iast hx hb hK hP hD hS 1 0 rfl rfl (kin_ok g59) dX11_insertOn_59 (fun H locs hP hD hS => ?_)
  have hP : va_P G vwCl [(a_t, .inr (8, [.int k_t_knots, .ref a_t_now, .int k_t_readKnots, .ref a_t_text, .int k_t_length, .ref a_t_covers, .int k_t_reached, .ref a_t_order, .ref a_t_way, .ref a_t_tried, .int k_t_acts, .int k_t_next, .ref a_t_row, .ref a_t_lids, .ref a_t_shown, .int k_t_seen, .ref a_t_seenKnot, .ref a_t_seenLid, .ref a_t_seenHad, .long k_t_seed, .ref a_t_isKept, .ref a_t_kept])), (a_t_now, .inl (cI, 100, .inl (upd (upd f_t_now (Int32.toNatClampNeg (((50 * p1) + 2) + (f_t_now (Int32.toNatClampNeg ((50 * p1) + 0))))) ((10 * p2) + p3)) (Int32.toNatClampNeg (((50 * p1) + 26) + ((upd f_t_now (Int32.toNatClampNeg (((50 * p1) + 2) + (f_t_now (Int32.toNatClampNeg ((50 * p1) + 0))))) ((10 * p2) + p3)) (Int32.toNatClampNeg ((50 * p1) + 0))))) ((upd f_t_now (Int32.toNatClampNeg (((50 * p1) + 2) + (f_t_now (Int32.toNatClampNeg ((50 * p1) + 0))))) ((10 * p2) + p3)) (Int32.toNatClampNeg ((50 * p1) + 1))))))] H := hP
  have hD : va_D A [(a_t, .inr (8, [.int k_t_knots, .ref a_t_now, .int k_t_readKnots, .ref a_t_text, .int k_t_length, .ref a_t_covers, .int k_t_reached, .ref a_t_order, .ref a_t_way, .ref a_t_tried, .int k_t_acts, .int k_t_next, .ref a_t_row, .ref a_t_lids, .ref a_t_shown, .int k_t_seen, .ref a_t_seenKnot, .ref a_t_seenLid, .ref a_t_seenHad, .long k_t_seed, .ref a_t_isKept, .ref a_t_kept])), (a_t_now, .inl (cI, 100, .inl (upd (upd f_t_now (Int32.toNatClampNeg (((50 * p1) + 2) + (f_t_now (Int32.toNatClampNeg ((50 * p1) + 0))))) ((10 * p2) + p3)) (Int32.toNatClampNeg (((50 * p1) + 26) + ((upd f_t_now (Int32.toNatClampNeg (((50 * p1) + 2) + (f_t_now (Int32.toNatClampNeg ((50 * p1) + 0))))) ((10 * p2) + p3)) (Int32.toNatClampNeg ((50 * p1) + 0))))) ((upd f_t_now (Int32.toNatClampNeg (((50 * p1) + 2) + (f_t_now (Int32.toNatClampNeg ((50 * p1) + 0))))) ((10 * p2) + p3)) (Int32.toNatClampNeg ((50 * p1) + 1))))))] := hD
  refine lv_aload_n hx hb dX11_insertOn_60 rfl (lv_at hl 1 rfl) ?_
  refine va_get (D := G) (ci := 8) (v := .ref a_t_now) (C := RX11) (T := TX11) (N := 22) hx hb hts i_X11 hown hK hP 0 rfl rfl 1 (by decide) l_13 (fun _ h9 => h9) rfl dX11_insertOn_61 ?_
  refine lv_iload hx hb dX11_insertOn_64 (lv_at hl 0 rfl) ?_
  refine lv_iconst (v := 0) hx hb dX11_insertOn_66 (by decide) ?_
  refine lv_iadd hx hb dX11_insertOn_67 ?_
  refine lv_dup2_11 hx hb dX11_insertOn_68 rfl rfl ?_
  obtain ⟨g69, hm⟩ := gd_some hm
  refine va_iald hx hb hK hP 1 0 rfl rfl (kin_ok g69) dX11_insertOn_69 ?_
  refine lv_iconst (v := 1) hx hb dX11_insertOn_70 (by decide) ?_
  refine lv_iadd hx hb dX11_insertOn_71 ?_
  obtain ⟨g72, hm⟩ := gd_some hm
  refine va_iast hx hb hK hP hD hS 1 0 rfl rfl (kin_ok g72) dX11_insertOn_72 (fun H locs hP hD hS => ?_)
  have hP : va_P G vwCl [(a_t, .inr (8, [.int k_t_knots, .ref a_t_now, .int k_t_readKnots, .ref a_t_text, .int k_t_length, .ref a_t_covers, .int k_t_reached, .ref a_t_order, .ref a_t_way, .ref a_t_tried, .int k_t_acts, .int k_t_next, .ref a_t_row, .ref a_t_lids, .ref a_t_shown, .int k_t_seen, .ref a_t_seenKnot, .ref a_t_seenLid, .ref a_t_seenHad, .long k_t_seed, .ref a_t_isKept, .ref a_t_kept])), (a_t_now, .inl (cI, 100, .inl (upd (upd (upd f_t_now (Int32.toNatClampNeg (((50 * p1) + 2) + (f_t_now (Int32.toNatClampNeg ((50 * p1) + 0))))) ((10 * p2) + p3)) (Int32.toNatClampNeg (((50 * p1) + 26) + ((upd f_t_now (Int32.toNatClampNeg (((50 * p1) + 2) + (f_t_now (Int32.toNatClampNeg ((50 * p1) + 0))))) ((10 * p2) + p3)) (Int32.toNatClampNeg ((50 * p1) + 0))))) ((upd f_t_now (Int32.toNatClampNeg (((50 * p1) + 2) + (f_t_now (Int32.toNatClampNeg ((50 * p1) + 0))))) ((10 * p2) + p3)) (Int32.toNatClampNeg ((50 * p1) + 1)))) (Int32.toNatClampNeg ((50 * p1) + 0)) (((upd (upd f_t_now (Int32.toNatClampNeg (((50 * p1) + 2) + (f_t_now (Int32.toNatClampNeg ((50 * p1) + 0))))) ((10 * p2) + p3)) (Int32.toNatClampNeg (((50 * p1) + 26) + ((upd f_t_now (Int32.toNatClampNeg (((50 * p1) + 2) + (f_t_now (Int32.toNatClampNeg ((50 * p1) + 0))))) ((10 * p2) + p3)) (Int32.toNatClampNeg ((50 * p1) + 0))))) ((upd f_t_now (Int32.toNatClampNeg (((50 * p1) + 2) + (f_t_now (Int32.toNatClampNeg ((50 * p1) + 0))))) ((10 * p2) + p3)) (Int32.toNatClampNeg ((50 * p1) + 1)))) (Int32.toNatClampNeg ((50 * p1) + 0))) + 1))))] H := hP
  have hD : va_D A [(a_t, .inr (8, [.int k_t_knots, .ref a_t_now, .int k_t_readKnots, .ref a_t_text, .int k_t_length, .ref a_t_covers, .int k_t_reached, .ref a_t_order, .ref a_t_way, .ref a_t_tried, .int k_t_acts, .int k_t_next, .ref a_t_row, .ref a_t_lids, .ref a_t_shown, .int k_t_seen, .ref a_t_seenKnot, .ref a_t_seenLid, .ref a_t_seenHad, .long k_t_seed, .ref a_t_isKept, .ref a_t_kept])), (a_t_now, .inl (cI, 100, .inl (upd (upd (upd f_t_now (Int32.toNatClampNeg (((50 * p1) + 2) + (f_t_now (Int32.toNatClampNeg ((50 * p1) + 0))))) ((10 * p2) + p3)) (Int32.toNatClampNeg (((50 * p1) + 26) + ((upd f_t_now (Int32.toNatClampNeg (((50 * p1) + 2) + (f_t_now (Int32.toNatClampNeg ((50 * p1) + 0))))) ((10 * p2) + p3)) (Int32.toNatClampNeg ((50 * p1) + 0))))) ((upd f_t_now (Int32.toNatClampNeg (((50 * p1) + 2) + (f_t_now (Int32.toNatClampNeg ((50 * p1) + 0))))) ((10 * p2) + p3)) (Int32.toNatClampNeg ((50 * p1) + 1)))) (Int32.toNatClampNeg ((50 * p1) + 0)) (((upd (upd f_t_now (Int32.toNatClampNeg (((50 * p1) + 2) + (f_t_now (Int32.toNatClampNeg ((50 * p1) + 0))))) ((10 * p2) + p3)) (Int32.toNatClampNeg (((50 * p1) + 26) + ((upd f_t_now (Int32.toNatClampNeg (((50 * p1) + 2) + (f_t_now (Int32.toNatClampNeg ((50 * p1) + 0))))) ((10 * p2) + p3)) (Int32.toNatClampNeg ((50 * p1) + 0))))) ((upd f_t_now (Int32.toNatClampNeg (((50 * p1) + 2) + (f_t_now (Int32.toNatClampNeg ((50 * p1) + 0))))) ((10 * p2) + p3)) (Int32.toNatClampNeg ((50 * p1) + 1)))) (Int32.toNatClampNeg ((50 * p1) + 0))) + 1))))] := hD
  refine lv_aload_n hx hb dX11_insertOn_73 rfl (lv_at hl 1 rfl) ?_
  refine va_get (D := G) (ci := 8) (v := .ref a_t_now) (C := RX11) (T := TX11) (N := 22) hx hb hts i_X11 hown hK hP 0 rfl rfl 1 (by decide) l_13 (fun _ h9 => h9) rfl dX11_insertOn_74 ?_
  refine lv_iload hx hb dX11_insertOn_77 (lv_at hl 0 rfl) ?_
  refine lv_iconst (v := 1) hx hb dX11_insertOn_79 (by decide) ?_
  refine lv_iadd hx hb dX11_insertOn_80 ?_
  refine lv_dup2_11 hx hb dX11_insertOn_81 rfl rfl ?_
  obtain ⟨g82, hm⟩ := gd_some hm
  refine va_iald hx hb hK hP 1 0 rfl rfl (kin_ok g82) dX11_insertOn_82 ?_
  refine lv_iconst (v := 1) hx hb dX11_insertOn_83 (by decide) ?_
  refine lv_iadd hx hb dX11_insertOn_84 ?_
  obtain ⟨g85, hm⟩ := gd_some hm
  refine va_iast hx hb hK hP hD hS 1 0 rfl rfl (kin_ok g85) dX11_insertOn_85 (fun H locs hP hD hS => ?_)
  have hP : va_P G vwCl [(a_t, .inr (8, [.int k_t_knots, .ref a_t_now, .int k_t_readKnots, .ref a_t_text, .int k_t_length, .ref a_t_covers, .int k_t_reached, .ref a_t_order, .ref a_t_way, .ref a_t_tried, .int k_t_acts, .int k_t_next, .ref a_t_row, .ref a_t_lids, .ref a_t_shown, .int k_t_seen, .ref a_t_seenKnot, .ref a_t_seenLid, .ref a_t_seenHad, .long k_t_seed, .ref a_t_isKept, .ref a_t_kept])), (a_t_now, .inl (cI, 100, .inl (upd (upd (upd (upd f_t_now (Int32.toNatClampNeg (((50 * p1) + 2) + (f_t_now (Int32.toNatClampNeg ((50 * p1) + 0))))) ((10 * p2) + p3)) (Int32.toNatClampNeg (((50 * p1) + 26) + ((upd f_t_now (Int32.toNatClampNeg (((50 * p1) + 2) + (f_t_now (Int32.toNatClampNeg ((50 * p1) + 0))))) ((10 * p2) + p3)) (Int32.toNatClampNeg ((50 * p1) + 0))))) ((upd f_t_now (Int32.toNatClampNeg (((50 * p1) + 2) + (f_t_now (Int32.toNatClampNeg ((50 * p1) + 0))))) ((10 * p2) + p3)) (Int32.toNatClampNeg ((50 * p1) + 1)))) (Int32.toNatClampNeg ((50 * p1) + 0)) (((upd (upd f_t_now (Int32.toNatClampNeg (((50 * p1) + 2) + (f_t_now (Int32.toNatClampNeg ((50 * p1) + 0))))) ((10 * p2) + p3)) (Int32.toNatClampNeg (((50 * p1) + 26) + ((upd f_t_now (Int32.toNatClampNeg (((50 * p1) + 2) + (f_t_now (Int32.toNatClampNeg ((50 * p1) + 0))))) ((10 * p2) + p3)) (Int32.toNatClampNeg ((50 * p1) + 0))))) ((upd f_t_now (Int32.toNatClampNeg (((50 * p1) + 2) + (f_t_now (Int32.toNatClampNeg ((50 * p1) + 0))))) ((10 * p2) + p3)) (Int32.toNatClampNeg ((50 * p1) + 1)))) (Int32.toNatClampNeg ((50 * p1) + 0))) + 1)) (Int32.toNatClampNeg ((50 * p1) + 1)) (((upd (upd (upd f_t_now (Int32.toNatClampNeg (((50 * p1) + 2) + (f_t_now (Int32.toNatClampNeg ((50 * p1) + 0))))) ((10 * p2) + p3)) (Int32.toNatClampNeg (((50 * p1) + 26) + ((upd f_t_now (Int32.toNatClampNeg (((50 * p1) + 2) + (f_t_now (Int32.toNatClampNeg ((50 * p1) + 0))))) ((10 * p2) + p3)) (Int32.toNatClampNeg ((50 * p1) + 0))))) ((upd f_t_now (Int32.toNatClampNeg (((50 * p1) + 2) + (f_t_now (Int32.toNatClampNeg ((50 * p1) + 0))))) ((10 * p2) + p3)) (Int32.toNatClampNeg ((50 * p1) + 1)))) (Int32.toNatClampNeg ((50 * p1) + 0)) (((upd (upd f_t_now (Int32.toNatClampNeg (((50 * p1) + 2) + (f_t_now (Int32.toNatClampNeg ((50 * p1) + 0))))) ((10 * p2) + p3)) (Int32.toNatClampNeg (((50 * p1) + 26) + ((upd f_t_now (Int32.toNatClampNeg (((50 * p1) + 2) + (f_t_now (Int32.toNatClampNeg ((50 * p1) + 0))))) ((10 * p2) + p3)) (Int32.toNatClampNeg ((50 * p1) + 0))))) ((upd f_t_now (Int32.toNatClampNeg (((50 * p1) + 2) + (f_t_now (Int32.toNatClampNeg ((50 * p1) + 0))))) ((10 * p2) + p3)) (Int32.toNatClampNeg ((50 * p1) + 1)))) (Int32.toNatClampNeg ((50 * p1) + 0))) + 1)) (Int32.toNatClampNeg ((50 * p1) + 1))) + 1))))] H := hP
  have hD : va_D A [(a_t, .inr (8, [.int k_t_knots, .ref a_t_now, .int k_t_readKnots, .ref a_t_text, .int k_t_length, .ref a_t_covers, .int k_t_reached, .ref a_t_order, .ref a_t_way, .ref a_t_tried, .int k_t_acts, .int k_t_next, .ref a_t_row, .ref a_t_lids, .ref a_t_shown, .int k_t_seen, .ref a_t_seenKnot, .ref a_t_seenLid, .ref a_t_seenHad, .long k_t_seed, .ref a_t_isKept, .ref a_t_kept])), (a_t_now, .inl (cI, 100, .inl (upd (upd (upd (upd f_t_now (Int32.toNatClampNeg (((50 * p1) + 2) + (f_t_now (Int32.toNatClampNeg ((50 * p1) + 0))))) ((10 * p2) + p3)) (Int32.toNatClampNeg (((50 * p1) + 26) + ((upd f_t_now (Int32.toNatClampNeg (((50 * p1) + 2) + (f_t_now (Int32.toNatClampNeg ((50 * p1) + 0))))) ((10 * p2) + p3)) (Int32.toNatClampNeg ((50 * p1) + 0))))) ((upd f_t_now (Int32.toNatClampNeg (((50 * p1) + 2) + (f_t_now (Int32.toNatClampNeg ((50 * p1) + 0))))) ((10 * p2) + p3)) (Int32.toNatClampNeg ((50 * p1) + 1)))) (Int32.toNatClampNeg ((50 * p1) + 0)) (((upd (upd f_t_now (Int32.toNatClampNeg (((50 * p1) + 2) + (f_t_now (Int32.toNatClampNeg ((50 * p1) + 0))))) ((10 * p2) + p3)) (Int32.toNatClampNeg (((50 * p1) + 26) + ((upd f_t_now (Int32.toNatClampNeg (((50 * p1) + 2) + (f_t_now (Int32.toNatClampNeg ((50 * p1) + 0))))) ((10 * p2) + p3)) (Int32.toNatClampNeg ((50 * p1) + 0))))) ((upd f_t_now (Int32.toNatClampNeg (((50 * p1) + 2) + (f_t_now (Int32.toNatClampNeg ((50 * p1) + 0))))) ((10 * p2) + p3)) (Int32.toNatClampNeg ((50 * p1) + 1)))) (Int32.toNatClampNeg ((50 * p1) + 0))) + 1)) (Int32.toNatClampNeg ((50 * p1) + 1)) (((upd (upd (upd f_t_now (Int32.toNatClampNeg (((50 * p1) + 2) + (f_t_now (Int32.toNatClampNeg ((50 * p1) + 0))))) ((10 * p2) + p3)) (Int32.toNatClampNeg (((50 * p1) + 26) + ((upd f_t_now (Int32.toNatClampNeg (((50 * p1) + 2) + (f_t_now (Int32.toNatClampNeg ((50 * p1) + 0))))) ((10 * p2) + p3)) (Int32.toNatClampNeg ((50 * p1) + 0))))) ((upd f_t_now (Int32.toNatClampNeg (((50 * p1) + 2) + (f_t_now (Int32.toNatClampNeg ((50 * p1) + 0))))) ((10 * p2) + p3)) (Int32.toNatClampNeg ((50 * p1) + 1)))) (Int32.toNatClampNeg ((50 * p1) + 0)) (((upd (upd f_t_now (Int32.toNatClampNeg (((50 * p1) + 2) + (f_t_now (Int32.toNatClampNeg ((50 * p1) + 0))))) ((10 * p2) + p3)) (Int32.toNatClampNeg (((50 * p1) + 26) + ((upd f_t_now (Int32.toNatClampNeg (((50 * p1) + 2) + (f_t_now (Int32.toNatClampNeg ((50 * p1) + 0))))) ((10 * p2) + p3)) (Int32.toNatClampNeg ((50 * p1) + 0))))) ((upd f_t_now (Int32.toNatClampNeg (((50 * p1) + 2) + (f_t_now (Int32.toNatClampNeg ((50 * p1) + 0))))) ((10 * p2) + p3)) (Int32.toNatClampNeg ((50 * p1) + 1)))) (Int32.toNatClampNeg ((50 * p1) + 0))) + 1)) (Int32.toNatClampNeg ((50 * p1) + 1))) + 1))))] := hD
  have hm := Option.some.inj hm
  subst hm
  exact k_vret X rfl dX11_insertOn_86 hP hD hS
theorem hd_X11_insertOn : yX11_insertOn.cls = RX11 ∧ yX11_insertOn.cls ≠ "java/lang/invoke/MethodHandle" ∧ yX11_insertOn.cls ≠ "java/lang/invoke/VarHandle" ∧ (parseMethodDescriptor yX11_insertOn.desc).map (fun d => d.parameters.length) = some 3 := by decide +kernel
/-! CoverOrderModel deleteOn -/
set_option maxRecDepth 100000 in
set_option maxHeartbeats 4000000 in
theorem c_X11_deleteOn (l : Launch) (G : va_G) (cI cZ cE : ClassId) (a_t a_t_now a_t_text a_t_covers a_t_order a_t_way a_t_tried a_t_row a_t_lids a_t_shown a_t_seenKnot a_t_seenLid a_t_seenHad a_t_isKept a_t_kept : Nat) (k_t_knots : Int32) (k_t_readKnots : Int32) (k_t_length : Int32) (k_t_reached : Int32) (k_t_acts : Int32) (k_t_next : Int32) (k_t_seen : Int32) (k_t_seed : Int64) (f_t_now : Nat → Int32) (p1 : Int32) (p2 : Int32) (R : (Nat → Int32)) (hm : mX11_deleteOn f_t_now p1 p2 = some R) : kM l yX11_deleteOn wsX11_deleteOn { frames := 0, cells := 0, slots := 0, locals := 0 } G cI cZ cE [.ref a_t, .int p1, .int p2] [(a_t, .inr (8, [.int k_t_knots, .ref a_t_now, .int k_t_readKnots, .ref a_t_text, .int k_t_length, .ref a_t_covers, .int k_t_reached, .ref a_t_order, .ref a_t_way, .ref a_t_tried, .int k_t_acts, .int k_t_next, .ref a_t_row, .ref a_t_lids, .ref a_t_shown, .int k_t_seen, .ref a_t_seenKnot, .ref a_t_seenLid, .ref a_t_seenHad, .long k_t_seed, .ref a_t_isKept, .ref a_t_kept])), (a_t_now, .inl (cI, 100, .inl f_t_now))] [(a_t, .inr (8, [.int k_t_knots, .ref a_t_now, .int k_t_readKnots, .ref a_t_text, .int k_t_length, .ref a_t_covers, .int k_t_reached, .ref a_t_order, .ref a_t_way, .ref a_t_tried, .int k_t_acts, .int k_t_next, .ref a_t_row, .ref a_t_lids, .ref a_t_shown, .int k_t_seen, .ref a_t_seenKnot, .ref a_t_seenLid, .ref a_t_seenHad, .long k_t_seed, .ref a_t_isKept, .ref a_t_kept])), (a_t_now, .inl (cI, 100, .inl R))] none := by
  refine kM_of cX11_deleteOn 5 none RX11 (by decide) rfl rfl (Nat.le_of_ble_eq_true rfl) ?_
  intro p e s m below meth c A ls X hA hP hD hS hl
  have hx := X.1.1
  have hb := X.1.2.1
  have hts := X.1.2.2.2.2
  have hown := X.1.2.2.2.1
  have hK := X.2.2.2.1
  have l_13 : (.fieldLink RX11 13 "CoverOrderModel" "now" "[I" : Cond).before _ s = true := hts _ (List.mem_of_getElem? (i := 1) (by decide +kernel))
  have i_X11 : ∀ w ∈ u_ws RX11 TX11 22, w ∈ wsX11_deleteOn := k_in _ [2, 3, 4, 5, 6, 7, 8, 9, 10, 11, 12, 13, 14, 15, 16, 17, 18, 19, 20, 21, 22, 23] (by decide +kernel)
  have hl : lv_has ls 5 [(0, .ref a_t), (1, .int p1), (2, .int p2)] := hl
  rw [mX11_deleteOn] at hm
  refine lv_bipush (v := 50) hx hb dX11_deleteOn_0 (by decide) ?_
  refine lv_iload_n hx hb dX11_deleteOn_2 rfl (lv_at hl 1 rfl) ?_
  refine lv_imul hx hb dX11_deleteOn_3 ?_
  refine lv_istore_n (lv' := [(3, .int (50 * p1)), (0, .ref a_t), (1, .int p1), (2, .int p2)]) hx hb dX11_deleteOn_4 rfl hl (by decide) rfl (fun ls hl => ?_)
  refine lv_aload_n hx hb dX11_deleteOn_5 rfl (lv_at hl 1 rfl) ?_
  refine va_get (D := G) (ci := 8) (v := .ref a_t_now) (C := RX11) (T := TX11) (N := 22) hx hb hts i_X11 hown hK hP 0 rfl rfl 1 (by decide) l_13 (fun _ h9 => h9) rfl dX11_deleteOn_6 ?_
  refine lv_iload_n hx hb dX11_deleteOn_9 rfl (lv_at hl 0 rfl) ?_
  refine lv_iconst (v := 0) hx hb dX11_deleteOn_10 (by decide) ?_
  refine lv_iadd hx hb dX11_deleteOn_11 ?_
  refine lv_dup2_11 hx hb dX11_deleteOn_12 rfl rfl ?_
  obtain ⟨g13, hm⟩ := gd_some hm
  refine va_iald hx hb hK hP 1 0 rfl rfl (kin_ok g13) dX11_deleteOn_13 ?_
  refine lv_iconst (v := 1) hx hb dX11_deleteOn_14 (by decide) ?_
  refine lv_isub hx hb dX11_deleteOn_15 ?_
  obtain ⟨g16, hm⟩ := gd_some hm
  refine va_iast hx hb hK hP hD hS 1 0 rfl rfl (kin_ok g16) dX11_deleteOn_16 (fun H locs hP hD hS => ?_)
  have hP : va_P G vwCl [(a_t, .inr (8, [.int k_t_knots, .ref a_t_now, .int k_t_readKnots, .ref a_t_text, .int k_t_length, .ref a_t_covers, .int k_t_reached, .ref a_t_order, .ref a_t_way, .ref a_t_tried, .int k_t_acts, .int k_t_next, .ref a_t_row, .ref a_t_lids, .ref a_t_shown, .int k_t_seen, .ref a_t_seenKnot, .ref a_t_seenLid, .ref a_t_seenHad, .long k_t_seed, .ref a_t_isKept, .ref a_t_kept])), (a_t_now, .inl (cI, 100, .inl (upd f_t_now (Int32.toNatClampNeg ((50 * p1) + 0)) ((f_t_now (Int32.toNatClampNeg ((50 * p1) + 0))) - 1))))] H := hP
  have hD : va_D A [(a_t, .inr (8, [.int k_t_knots, .ref a_t_now, .int k_t_readKnots, .ref a_t_text, .int k_t_length, .ref a_t_covers, .int k_t_reached, .ref a_t_order, .ref a_t_way, .ref a_t_tried, .int k_t_acts, .int k_t_next, .ref a_t_row, .ref a_t_lids, .ref a_t_shown, .int k_t_seen, .ref a_t_seenKnot, .ref a_t_seenLid, .ref a_t_seenHad, .long k_t_seed, .ref a_t_isKept, .ref a_t_kept])), (a_t_now, .inl (cI, 100, .inl (upd f_t_now (Int32.toNatClampNeg ((50 * p1) + 0)) ((f_t_now (Int32.toNatClampNeg ((50 * p1) + 0))) - 1))))] := hD
  refine lv_iload_n hx hb dX11_deleteOn_17 rfl (lv_at hl 3 rfl) ?_
  refine lv_istore (lv' := [(4, .int p2), (3, .int (50 * p1)), (0, .ref a_t), (1, .int p1), (2, .int p2)]) hx hb dX11_deleteOn_18 hl (by decide) rfl (fun ls hl => ?_)
  have h20 : ∀ (n20 : Nat), ∀ (v20_4 : Int32) (w20_f_t_now : Nat → Int32) (H : Heap) (locs : List Loc) (ls : Array Slot), va_P G vwCl [(a_t, .inr (8, [.int k_t_knots, .ref a_t_now, .int k_t_readKnots, .ref a_t_text, .int k_t_length, .ref a_t_covers, .int k_t_reached, .ref a_t_order, .ref a_t_way, .ref a_t_tried, .int k_t_acts, .int k_t_next, .ref a_t_row, .ref a_t_lids, .ref a_t_shown, .int k_t_seen, .ref a_t_seenKnot, .ref a_t_seenLid, .ref a_t_seenHad, .long k_t_seed, .ref a_t_isKept, .ref a_t_kept])), (a_t_now, .inl (cI, 100, .inl w20_f_t_now))] H → va_D A [(a_t, .inr (8, [.int k_t_knots, .ref a_t_now, .int k_t_readKnots, .ref a_t_text, .int k_t_length, .ref a_t_covers, .int k_t_reached, .ref a_t_order, .ref a_t_way, .ref a_t_tried, .int k_t_acts, .int k_t_next, .ref a_t_row, .ref a_t_lids, .ref a_t_shown, .int k_t_seen, .ref a_t_seenKnot, .ref a_t_seenLid, .ref a_t_seenHad, .long k_t_seed, .ref a_t_isKept, .ref a_t_kept])), (a_t_now, .inl (cI, 100, .inl w20_f_t_now))] → va_S A s.heap H locs → lv_has ls 5 [(0, .ref a_t), (3, .int (50 * p1)), (4, .int v20_4)] → mX11_deleteOn_L20 p1 n20 v20_4 w20_f_t_now = some R → W p l e { frames := 0, cells := 0, slots := 0, locals := 0 } s m ([.ref a_t, .int p1, .int p2] : List Value).toArray below meth c H locs 0 0 (kQ below G [(a_t, .inr (8, [.int k_t_knots, .ref a_t_now, .int k_t_readKnots, .ref a_t_text, .int k_t_length, .ref a_t_covers, .int k_t_reached, .ref a_t_order, .ref a_t_way, .ref a_t_tried, .int k_t_acts, .int k_t_next, .ref a_t_row, .ref a_t_lids, .ref a_t_shown, .int k_t_seen, .ref a_t_seenKnot, .ref a_t_seenLid, .ref a_t_seenHad, .long k_t_seed, .ref a_t_isKept, .ref a_t_kept])), (a_t_now, .inl (cI, 100, .inl R))] none A ([.ref a_t, .int p1, .int p2] : List Value).toArray s) (F0 m 20 ls []) := by
    intro n20
    induction n20 with
    | zero => intro v20_4 w20_f_t_now H locs ls hP hD hS hl hm; rw [mX11_deleteOn_L20] at hm; cases hm
    | succ n20 ih20 =>
      intro v20_4 w20_f_t_now H locs ls hP hD hS hl hm
      rw [mX11_deleteOn_L20] at hm
      refine lv_iload hx hb dX11_deleteOn_20 (lv_at hl 2 rfl) ?_
      refine lv_aload_n hx hb dX11_deleteOn_22 rfl (lv_at hl 0 rfl) ?_
      refine va_get (D := G) (ci := 8) (v := .ref a_t_now) (C := RX11) (T := TX11) (N := 22) hx hb hts i_X11 hown hK hP 0 rfl rfl 1 (by decide) l_13 (fun _ h9 => h9) rfl dX11_deleteOn_23 ?_
      refine lv_iload_n hx hb dX11_deleteOn_26 rfl (lv_at hl 1 rfl) ?_
      refine lv_iconst (v := 0) hx hb dX11_deleteOn_27 (by decide) ?_
      refine lv_iadd hx hb dX11_deleteOn_28 ?_
      obtain ⟨g29, hm⟩ := gd_some hm
      refine va_iald hx hb hK hP 1 0 rfl rfl (kin_ok g29) dX11_deleteOn_29 ?_
      refine lv_icmp_ge (tgt := 89) hx hb dX11_deleteOn_30 (by decide) (fun c30 => ?_) (fun c30 => ?_)
      · rw [if_pos c30] at hm
        have hm := Option.some.inj hm
        subst hm
        exact k_vret X rfl dX11_deleteOn_89 hP hD hS
      · rw [if_neg c30] at hm
        refine lv_aload_n hx hb dX11_deleteOn_33 rfl (lv_at hl 0 rfl) ?_
        refine va_get (D := G) (ci := 8) (v := .ref a_t_now) (C := RX11) (T := TX11) (N := 22) hx hb hts i_X11 hown hK hP 0 rfl rfl 1 (by decide) l_13 (fun _ h9 => h9) rfl dX11_deleteOn_34 ?_
        refine lv_iload_n hx hb dX11_deleteOn_37 rfl (lv_at hl 1 rfl) ?_
        refine lv_iconst (v := 2) hx hb dX11_deleteOn_38 (by decide) ?_
        refine lv_iadd hx hb dX11_deleteOn_39 ?_
        refine lv_iload hx hb dX11_deleteOn_40 (lv_at hl 2 rfl) ?_
        refine lv_iadd hx hb dX11_deleteOn_42 ?_
        refine lv_aload_n hx hb dX11_deleteOn_43 rfl (lv_at hl 0 rfl) ?_
        refine va_get (D := G) (ci := 8) (v := .ref a_t_now) (C := RX11) (T := TX11) (N := 22) hx hb hts i_X11 hown hK hP 0 rfl rfl 1 (by decide) l_13 (fun _ h9 => h9) rfl dX11_deleteOn_44 ?_
        refine lv_iload_n hx hb dX11_deleteOn_47 rfl (lv_at hl 1 rfl) ?_
        refine lv_iconst (v := 2) hx hb dX11_deleteOn_48 (by decide) ?_
        refine lv_iadd hx hb dX11_deleteOn_49 ?_
        refine lv_iload hx hb dX11_deleteOn_50 (lv_at hl 2 rfl) ?_
        refine lv_iadd hx hb dX11_deleteOn_52 ?_
        refine lv_iconst (v := 1) hx hb dX11_deleteOn_53 (by decide) ?_
        refine lv_iadd hx hb dX11_deleteOn_54 ?_
        obtain ⟨g55, hm⟩ := gd_some hm
        refine va_iald hx hb hK hP 1 0 rfl rfl (kin_ok g55) dX11_deleteOn_55 ?_
        obtain ⟨g56, hm⟩ := gd_some hm
        refine va_iast hx hb hK hP hD hS 1 0 rfl rfl (kin_ok g56) dX11_deleteOn_56 (fun H locs hP hD hS => ?_)
        have hP : va_P G vwCl [(a_t, .inr (8, [.int k_t_knots, .ref a_t_now, .int k_t_readKnots, .ref a_t_text, .int k_t_length, .ref a_t_covers, .int k_t_reached, .ref a_t_order, .ref a_t_way, .ref a_t_tried, .int k_t_acts, .int k_t_next, .ref a_t_row, .ref a_t_lids, .ref a_t_shown, .int k_t_seen, .ref a_t_seenKnot, .ref a_t_seenLid, .ref a_t_seenHad, .long k_t_seed, .ref a_t_isKept, .ref a_t_kept])), (a_t_now, .inl (cI, 100, .inl (upd w20_f_t_now (Int32.toNatClampNeg (((50 * p1) + 2) + v20_4)) (w20_f_t_now (Int32.toNatClampNeg ((((50 * p1) + 2) + v20_4) + 1))))))] H := hP
        have hD : va_D A [(a_t, .inr (8, [.int k_t_knots, .ref a_t_now, .int k_t_readKnots, .ref a_t_text, .int k_t_length, .ref a_t_covers, .int k_t_reached, .ref a_t_order, .ref a_t_way, .ref a_t_tried, .int k_t_acts, .int k_t_next, .ref a_t_row, .ref a_t_lids, .ref a_t_shown, .int k_t_seen, .ref a_t_seenKnot, .ref a_t_seenLid, .ref a_t_seenHad, .long k_t_seed, .ref a_t_isKept, .ref a_t_kept])), (a_t_now, .inl (cI, 100, .inl (upd w20_f_t_now (Int32.toNatClampNeg (((50 * p1) + 2) + v20_4)) (w20_f_t_now (Int32.toNatClampNeg ((((50 * p1) + 2) + v20_4) + 1))))))] := hD
        refine lv_aload_n hx hb dX11_deleteOn_57 rfl (lv_at hl 0 rfl) ?_
        refine va_get (D := G) (ci := 8) (v := .ref a_t_now) (C := RX11) (T := TX11) (N := 22) hx hb hts i_X11 hown hK hP 0 rfl rfl 1 (by decide) l_13 (fun _ h9 => h9) rfl dX11_deleteOn_58 ?_
        refine lv_iload_n hx hb dX11_deleteOn_61 rfl (lv_at hl 1 rfl) ?_
        refine lv_bipush (v := 26) hx hb dX11_deleteOn_62 (by decide) ?_
        refine lv_iadd hx hb dX11_deleteOn_64 ?_
        refine lv_iload hx hb dX11_deleteOn_65 (lv_at hl 2 rfl) ?_
        refine lv_iadd hx hb dX11_deleteOn_67 ?_
        refine lv_aload_n hx hb dX11_deleteOn_68 rfl (lv_at hl 0 rfl) ?_
        refine va_get (D := G) (ci := 8) (v := .ref a_t_now) (C := RX11) (T := TX11) (N := 22) hx hb hts i_X11 hown hK hP 0 rfl rfl 1 (by decide) l_13 (fun _ h9 => h9) rfl dX11_deleteOn_69 ?_
        refine lv_iload_n hx hb dX11_deleteOn_72 rfl (lv_at hl 1 rfl) ?_
        refine lv_bipush (v := 26) hx hb dX11_deleteOn_73 (by decide) ?_
        refine lv_iadd hx hb dX11_deleteOn_75 ?_
        refine lv_iload hx hb dX11_deleteOn_76 (lv_at hl 2 rfl) ?_
        refine lv_iadd hx hb dX11_deleteOn_78 ?_
        refine lv_iconst (v := 1) hx hb dX11_deleteOn_79 (by decide) ?_
        refine lv_iadd hx hb dX11_deleteOn_80 ?_
        obtain ⟨g81, hm⟩ := gd_some hm
        refine va_iald hx hb hK hP 1 0 rfl rfl (kin_ok g81) dX11_deleteOn_81 ?_
        obtain ⟨g82, hm⟩ := gd_some hm
        refine va_iast hx hb hK hP hD hS 1 0 rfl rfl (kin_ok g82) dX11_deleteOn_82 (fun H locs hP hD hS => ?_)
        have hP : va_P G vwCl [(a_t, .inr (8, [.int k_t_knots, .ref a_t_now, .int k_t_readKnots, .ref a_t_text, .int k_t_length, .ref a_t_covers, .int k_t_reached, .ref a_t_order, .ref a_t_way, .ref a_t_tried, .int k_t_acts, .int k_t_next, .ref a_t_row, .ref a_t_lids, .ref a_t_shown, .int k_t_seen, .ref a_t_seenKnot, .ref a_t_seenLid, .ref a_t_seenHad, .long k_t_seed, .ref a_t_isKept, .ref a_t_kept])), (a_t_now, .inl (cI, 100, .inl (upd (upd w20_f_t_now (Int32.toNatClampNeg (((50 * p1) + 2) + v20_4)) (w20_f_t_now (Int32.toNatClampNeg ((((50 * p1) + 2) + v20_4) + 1)))) (Int32.toNatClampNeg (((50 * p1) + 26) + v20_4)) ((upd w20_f_t_now (Int32.toNatClampNeg (((50 * p1) + 2) + v20_4)) (w20_f_t_now (Int32.toNatClampNeg ((((50 * p1) + 2) + v20_4) + 1)))) (Int32.toNatClampNeg ((((50 * p1) + 26) + v20_4) + 1))))))] H := hP
        have hD : va_D A [(a_t, .inr (8, [.int k_t_knots, .ref a_t_now, .int k_t_readKnots, .ref a_t_text, .int k_t_length, .ref a_t_covers, .int k_t_reached, .ref a_t_order, .ref a_t_way, .ref a_t_tried, .int k_t_acts, .int k_t_next, .ref a_t_row, .ref a_t_lids, .ref a_t_shown, .int k_t_seen, .ref a_t_seenKnot, .ref a_t_seenLid, .ref a_t_seenHad, .long k_t_seed, .ref a_t_isKept, .ref a_t_kept])), (a_t_now, .inl (cI, 100, .inl (upd (upd w20_f_t_now (Int32.toNatClampNeg (((50 * p1) + 2) + v20_4)) (w20_f_t_now (Int32.toNatClampNeg ((((50 * p1) + 2) + v20_4) + 1)))) (Int32.toNatClampNeg (((50 * p1) + 26) + v20_4)) ((upd w20_f_t_now (Int32.toNatClampNeg (((50 * p1) + 2) + v20_4)) (w20_f_t_now (Int32.toNatClampNeg ((((50 * p1) + 2) + v20_4) + 1)))) (Int32.toNatClampNeg ((((50 * p1) + 26) + v20_4) + 1))))))] := hD
        refine lv_iinc (v := v20_4 + 1) (lv' := [(4, .int (v20_4 + 1)), (0, .ref a_t), (3, .int (50 * p1))]) hx hb dX11_deleteOn_83 hl (k := 2) rfl rfl (by decide) rfl (fun ls hl => ?_)
        refine lv_goto (tgt := 20) hx hb dX11_deleteOn_86 (by decide) ?_
        exact ih20 (v20_4 + 1) (upd (upd w20_f_t_now (Int32.toNatClampNeg (((50 * p1) + 2) + v20_4)) (w20_f_t_now (Int32.toNatClampNeg ((((50 * p1) + 2) + v20_4) + 1)))) (Int32.toNatClampNeg (((50 * p1) + 26) + v20_4)) ((upd w20_f_t_now (Int32.toNatClampNeg (((50 * p1) + 2) + v20_4)) (w20_f_t_now (Int32.toNatClampNeg ((((50 * p1) + 2) + v20_4) + 1)))) (Int32.toNatClampNeg ((((50 * p1) + 26) + v20_4) + 1)))) _ _ _ hP hD hS (lv_sub hl [1, 2, 0] rfl) hm
  exact h20 kFU p2 (upd f_t_now (Int32.toNatClampNeg ((50 * p1) + 0)) ((f_t_now (Int32.toNatClampNeg ((50 * p1) + 0))) - 1)) _ _ _ hP hD hS (lv_sub hl [2, 1, 0] rfl) hm
theorem hd_X11_deleteOn : yX11_deleteOn.cls = RX11 ∧ yX11_deleteOn.cls ≠ "java/lang/invoke/MethodHandle" ∧ yX11_deleteOn.cls ≠ "java/lang/invoke/VarHandle" ∧ (parseMethodDescriptor yX11_deleteOn.desc).map (fun d => d.parameters.length) = some 2 := by decide +kernel
/-! CoverOrderModel readText -/
set_option maxRecDepth 100000 in
set_option maxHeartbeats 4000000 in
theorem c_X11_readText (l : Launch) (G : va_G) (cI cZ cE : ClassId) (a_t a_t_now a_t_text a_t_covers a_t_order a_t_way a_t_tried a_t_row a_t_lids a_t_shown a_t_seenKnot a_t_seenLid a_t_seenHad a_t_isKept a_t_kept : Nat) (k_t_knots : Int32) (k_t_readKnots : Int32) (k_t_length : Int32) (k_t_reached : Int32) (k_t_acts : Int32) (k_t_next : Int32) (k_t_seen : Int32) (k_t_seed : Int64) (f_t_now : Nat → Int32) (f_t_text : Nat → Int32) (R : Int32 × Int32 × (Nat → Int32)) (hm : mX11_readText k_t_readKnots k_t_length f_t_now f_t_text = some R) : kM l yX11_readText wsX11_readText { frames := 2, cells := 0, slots := 0, locals := 46 } G cI cZ cE [.ref a_t] [(a_t, .inr (8, [.int k_t_knots, .ref a_t_now, .int k_t_readKnots, .ref a_t_text, .int k_t_length, .ref a_t_covers, .int k_t_reached, .ref a_t_order, .ref a_t_way, .ref a_t_tried, .int k_t_acts, .int k_t_next, .ref a_t_row, .ref a_t_lids, .ref a_t_shown, .int k_t_seen, .ref a_t_seenKnot, .ref a_t_seenLid, .ref a_t_seenHad, .long k_t_seed, .ref a_t_isKept, .ref a_t_kept])), (a_t_now, .inl (cI, 100, .inl f_t_now)), (a_t_text, .inl (cI, 64, .inl f_t_text))] [(a_t, .inr (8, [.int k_t_knots, .ref a_t_now, .int R.2.1, .ref a_t_text, .int k_t_length, .ref a_t_covers, .int k_t_reached, .ref a_t_order, .ref a_t_way, .ref a_t_tried, .int k_t_acts, .int k_t_next, .ref a_t_row, .ref a_t_lids, .ref a_t_shown, .int k_t_seen, .ref a_t_seenKnot, .ref a_t_seenLid, .ref a_t_seenHad, .long k_t_seed, .ref a_t_isKept, .ref a_t_kept])), (a_t_now, .inl (cI, 100, .inl R.2.2)), (a_t_text, .inl (cI, 64, .inl f_t_text))] (some (.int R.1)) := by
  refine kM_of cX11_readText 4 (some .int) RX11 (by decide) rfl rfl (Nat.le_of_ble_eq_true rfl) ?_
  intro p e s m below meth c A ls X hA hP hD hS hl
  have hx := X.1.1
  have hb := X.1.2.1
  have hts := X.1.2.2.2.2
  have hown := X.1.2.2.2.1
  have hK := X.2.2.2.1
  have l_13 : (.fieldLink RX11 13 "CoverOrderModel" "now" "[I" : Cond).before _ s = true := hts _ (List.mem_of_getElem? (i := 1) (by decide +kernel))
  have i_X11 : ∀ w ∈ u_ws RX11 TX11 22, w ∈ wsX11_readText := k_in _ [31, 32, 33, 34, 35, 36, 37, 38, 39, 40, 41, 42, 43, 44, 45, 46, 47, 48, 49, 50, 51, 52] (by decide +kernel)
  have l_63 : (.fieldLink RX11 63 "CoverOrderModel" "length" "I" : Cond).before _ s = true := hts _ (List.mem_of_getElem? (i := 2) (by decide +kernel))
  have l_17 : (.fieldLink RX11 17 "CoverOrderModel" "text" "[I" : Cond).before _ s = true := hts _ (List.mem_of_getElem? (i := 3) (by decide +kernel))
  have k_74 : (.constantLong RX11 74 (49) : Cond).before _ s = true := hts _ (List.mem_of_getElem? (i := 4) (by decide +kernel))
  have k_76 : (.constantLong RX11 76 (56) : Cond).before _ s = true := hts _ (List.mem_of_getElem? (i := 5) (by decide +kernel))
  have l_78 : (.fieldLink RX11 78 "CoverOrderModel" "readKnots" "I" : Cond).before _ s = true := hts _ (List.mem_of_getElem? (i := 6) (by decide +kernel))
  have hl : lv_has ls 4 [(0, .ref a_t)] := hl
  rw [mX11_readText] at hm
  refine lv_aload_n hx hb dX11_readText_0 rfl (lv_at hl 0 rfl) ?_
  refine va_get (D := G) (ci := 8) (v := .ref a_t_now) (C := RX11) (T := TX11) (N := 22) hx hb hts i_X11 hown hK hP 0 rfl rfl 1 (by decide) l_13 (fun _ h9 => h9) rfl dX11_readText_1 ?_
  refine lv_bipush (v := 50) hx hb dX11_readText_4 (by decide) ?_
  refine lv_iconst (v := 0) hx hb dX11_readText_6 (by decide) ?_
  refine va_iast hx hb hK hP hD hS 1 0 rfl rfl (kin_ok (by decide)) dX11_readText_7 (fun H locs hP hD hS => ?_)
  have hP : va_P G vwCl [(a_t, .inr (8, [.int k_t_knots, .ref a_t_now, .int k_t_readKnots, .ref a_t_text, .int k_t_length, .ref a_t_covers, .int k_t_reached, .ref a_t_order, .ref a_t_way, .ref a_t_tried, .int k_t_acts, .int k_t_next, .ref a_t_row, .ref a_t_lids, .ref a_t_shown, .int k_t_seen, .ref a_t_seenKnot, .ref a_t_seenLid, .ref a_t_seenHad, .long k_t_seed, .ref a_t_isKept, .ref a_t_kept])), (a_t_now, .inl (cI, 100, .inl (upd f_t_now (Int32.toNatClampNeg 50) 0))), (a_t_text, .inl (cI, 64, .inl f_t_text))] H := hP
  have hD : va_D A [(a_t, .inr (8, [.int k_t_knots, .ref a_t_now, .int k_t_readKnots, .ref a_t_text, .int k_t_length, .ref a_t_covers, .int k_t_reached, .ref a_t_order, .ref a_t_way, .ref a_t_tried, .int k_t_acts, .int k_t_next, .ref a_t_row, .ref a_t_lids, .ref a_t_shown, .int k_t_seen, .ref a_t_seenKnot, .ref a_t_seenLid, .ref a_t_seenHad, .long k_t_seed, .ref a_t_isKept, .ref a_t_kept])), (a_t_now, .inl (cI, 100, .inl (upd f_t_now (Int32.toNatClampNeg 50) 0))), (a_t_text, .inl (cI, 64, .inl f_t_text))] := hD
  refine lv_aload_n hx hb dX11_readText_8 rfl (lv_at hl 0 rfl) ?_
  refine va_get (D := G) (ci := 8) (v := .ref a_t_now) (C := RX11) (T := TX11) (N := 22) hx hb hts i_X11 hown hK hP 0 rfl rfl 1 (by decide) l_13 (fun _ h9 => h9) rfl dX11_readText_9 ?_
  refine lv_bipush (v := 51) hx hb dX11_readText_12 (by decide) ?_
  refine lv_iconst (v := 1) hx hb dX11_readText_14 (by decide) ?_
  refine va_iast hx hb hK hP hD hS 1 0 rfl rfl (kin_ok (by decide)) dX11_readText_15 (fun H locs hP hD hS => ?_)
  have hP : va_P G vwCl [(a_t, .inr (8, [.int k_t_knots, .ref a_t_now, .int k_t_readKnots, .ref a_t_text, .int k_t_length, .ref a_t_covers, .int k_t_reached, .ref a_t_order, .ref a_t_way, .ref a_t_tried, .int k_t_acts, .int k_t_next, .ref a_t_row, .ref a_t_lids, .ref a_t_shown, .int k_t_seen, .ref a_t_seenKnot, .ref a_t_seenLid, .ref a_t_seenHad, .long k_t_seed, .ref a_t_isKept, .ref a_t_kept])), (a_t_now, .inl (cI, 100, .inl (upd (upd f_t_now (Int32.toNatClampNeg 50) 0) (Int32.toNatClampNeg 51) 1))), (a_t_text, .inl (cI, 64, .inl f_t_text))] H := hP
  have hD : va_D A [(a_t, .inr (8, [.int k_t_knots, .ref a_t_now, .int k_t_readKnots, .ref a_t_text, .int k_t_length, .ref a_t_covers, .int k_t_reached, .ref a_t_order, .ref a_t_way, .ref a_t_tried, .int k_t_acts, .int k_t_next, .ref a_t_row, .ref a_t_lids, .ref a_t_shown, .int k_t_seen, .ref a_t_seenKnot, .ref a_t_seenLid, .ref a_t_seenHad, .long k_t_seed, .ref a_t_isKept, .ref a_t_kept])), (a_t_now, .inl (cI, 100, .inl (upd (upd f_t_now (Int32.toNatClampNeg 50) 0) (Int32.toNatClampNeg 51) 1))), (a_t_text, .inl (cI, 64, .inl f_t_text))] := hD
  refine lv_aload_n hx hb dX11_readText_16 rfl (lv_at hl 0 rfl) ?_
  refine va_get (D := G) (ci := 8) (v := .int k_t_length) (C := RX11) (T := TX11) (N := 22) hx hb hts i_X11 hown hK hP 0 rfl rfl 4 (by decide) l_63 (fun _ h9 => h9) rfl dX11_readText_17 ?_
  refine lv_if_eq (tgt := 34) hx hb dX11_readText_20 (by decide) (fun c20 => ?_) (fun c20 => ?_)
  · rw [if_pos c20] at hm
    refine lv_iconst (v := 0) hx hb dX11_readText_34 (by decide) ?_
    have hm := Option.some.inj hm
    subst hm
    exact k_iret (v := 0) X rfl dX11_readText_35 hP hD hS
  · rw [if_neg c20] at hm
    refine lv_aload_n hx hb dX11_readText_23 rfl (lv_at hl 0 rfl) ?_
    refine va_get (D := G) (ci := 8) (v := .ref a_t_text) (C := RX11) (T := TX11) (N := 22) hx hb hts i_X11 hown hK hP 0 rfl rfl 3 (by decide) l_17 (fun _ h9 => h9) rfl dX11_readText_24 ?_
    refine lv_iconst (v := 0) hx hb dX11_readText_27 (by decide) ?_
    refine va_iald hx hb hK hP 2 0 rfl rfl (kin_ok (by decide)) dX11_readText_28 ?_
    refine lv_bipush (v := 68) hx hb dX11_readText_29 (by decide) ?_
    refine lv_icmp_eq (tgt := 36) hx hb dX11_readText_31 (by decide) (fun c31 => ?_) (fun c31 => ?_)
    · rw [if_pos c31] at hm
      refine lv_aload_n hx hb dX11_readText_36 rfl (lv_at hl 0 rfl) ?_
      refine va_get (D := G) (ci := 8) (v := .int k_t_length) (C := RX11) (T := TX11) (N := 22) hx hb hts i_X11 hown hK hP 0 rfl rfl 4 (by decide) l_63 (fun _ h9 => h9) rfl dX11_readText_37 ?_
      refine lv_iconst (v := 1) hx hb dX11_readText_40 (by decide) ?_
      refine lv_icmp_eq (tgt := 63) hx hb dX11_readText_41 (by decide) (fun c41 => ?_) (fun c41 => ?_)
      · rw [if_pos c41] at hm
        refine lv_iconst (v := 1) hx hb dX11_readText_63 (by decide) ?_
        have hm := Option.some.inj hm
        subst hm
        exact k_iret (v := 1) X rfl dX11_readText_64 hP hD hS
      · rw [if_neg c41] at hm
        refine lv_aload_n hx hb dX11_readText_44 rfl (lv_at hl 0 rfl) ?_
        refine va_get (D := G) (ci := 8) (v := .ref a_t_text) (C := RX11) (T := TX11) (N := 22) hx hb hts i_X11 hown hK hP 0 rfl rfl 3 (by decide) l_17 (fun _ h9 => h9) rfl dX11_readText_45 ?_
        refine lv_iconst (v := 1) hx hb dX11_readText_48 (by decide) ?_
        refine va_iald hx hb hK hP 2 0 rfl rfl (kin_ok (by decide)) dX11_readText_49 ?_
        refine lv_i2l (v := (f_t_text (Int32.toNatClampNeg 1) : Int32).toInt64) hx hb dX11_readText_50 rfl ?_
        refine lv_ldc2 (v := 49) hx hb hown k_74 dX11_readText_51 ?_
        refine lv_ldc2 (v := 56) hx hb hown k_76 dX11_readText_54 ?_
        refine kcS0 (st1 := [.int (bI (mX11_in ((f_t_text (Int32.toNatClampNeg 1) : Int32).toInt64) 49 56))]) X hA (c_X11_in l G cI cZ cE ((f_t_text (Int32.toNatClampNeg 1) : Int32).toInt64) 49 56 _ rfl) (va_cwS 3 hts gX11_readText_X11_in rfl rfl rfl hd_X11_in ⟨Nat.le_of_ble_eq_true rfl, Nat.le_of_ble_eq_true rfl⟩) hl.1 dX11_readText_57 hP hD hS [] rfl rfl rfl [] rfl (Nat.le_of_ble_eq_true rfl) rfl ⟨Nat.zero_le _, Nat.zero_le _⟩ (fun H locs hP hD hS => ?_)
        refine lv_if_ne (tgt := 65) hx hb dX11_readText_60 (by decide) (fun c60 => ?_) (fun c60 => ?_)
        · have c60 := kb1 c60
          rw [if_pos c60] at hm
          refine lv_aload_n hx hb dX11_readText_65 rfl (lv_at hl 0 rfl) ?_
          refine lv_aload_n hx hb dX11_readText_66 rfl (lv_at hl 0 rfl) ?_
          refine va_get (D := G) (ci := 8) (v := .ref a_t_text) (C := RX11) (T := TX11) (N := 22) hx hb hts i_X11 hown hK hP 0 rfl rfl 3 (by decide) l_17 (fun _ h9 => h9) rfl dX11_readText_67 ?_
          refine lv_iconst (v := 1) hx hb dX11_readText_70 (by decide) ?_
          refine va_iald hx hb hK hP 2 0 rfl rfl (kin_ok (by decide)) dX11_readText_71 ?_
          refine lv_bipush (v := 48) hx hb dX11_readText_72 (by decide) ?_
          refine lv_isub hx hb dX11_readText_74 ?_
          refine va_put (D := G) (ci := 8) (v := .int ((f_t_text (Int32.toNatClampNeg 1)) - 48)) (ty := .int) (C := RX11) (T := TX11) (N := 22) hx hb hts i_X11 tyX11 tyX11_ok nmX11 hown hK hP hD hS 0 rfl rfl 2 (by decide) l_78 (fun _ h9 => h9) rfl (by decide +kernel) rfl rfl (Nat.le_of_ble_eq_true rfl) dX11_readText_75 (fun H locs hP hD hS => ?_)
          have hP : va_P G vwCl [(a_t, .inr (8, [.int k_t_knots, .ref a_t_now, .int ((f_t_text (Int32.toNatClampNeg 1)) - 48), .ref a_t_text, .int k_t_length, .ref a_t_covers, .int k_t_reached, .ref a_t_order, .ref a_t_way, .ref a_t_tried, .int k_t_acts, .int k_t_next, .ref a_t_row, .ref a_t_lids, .ref a_t_shown, .int k_t_seen, .ref a_t_seenKnot, .ref a_t_seenLid, .ref a_t_seenHad, .long k_t_seed, .ref a_t_isKept, .ref a_t_kept])), (a_t_now, .inl (cI, 100, .inl (upd (upd f_t_now (Int32.toNatClampNeg 50) 0) (Int32.toNatClampNeg 51) 1))), (a_t_text, .inl (cI, 64, .inl f_t_text))] H := hP
          have hD : va_D A [(a_t, .inr (8, [.int k_t_knots, .ref a_t_now, .int ((f_t_text (Int32.toNatClampNeg 1)) - 48), .ref a_t_text, .int k_t_length, .ref a_t_covers, .int k_t_reached, .ref a_t_order, .ref a_t_way, .ref a_t_tried, .int k_t_acts, .int k_t_next, .ref a_t_row, .ref a_t_lids, .ref a_t_shown, .int k_t_seen, .ref a_t_seenKnot, .ref a_t_seenLid, .ref a_t_seenHad, .long k_t_seed, .ref a_t_isKept, .ref a_t_kept])), (a_t_now, .inl (cI, 100, .inl (upd (upd f_t_now (Int32.toNatClampNeg 50) 0) (Int32.toNatClampNeg 51) 1))), (a_t_text, .inl (cI, 64, .inl f_t_text))] := hD
          refine lv_iconst (v := 2) hx hb dX11_readText_78 (by decide) ?_
          refine lv_istore_n (lv' := [(1, .int 2), (0, .ref a_t)]) hx hb dX11_readText_79 rfl hl (by decide) rfl (fun ls hl => ?_)
          have h80 : ∀ (n80 : Nat), ∀ (v80_1 : Int32) (w80_f_t_now : Nat → Int32) (H : Heap) (locs : List Loc) (ls : Array Slot), va_P G vwCl [(a_t, .inr (8, [.int k_t_knots, .ref a_t_now, .int ((f_t_text (Int32.toNatClampNeg 1)) - 48), .ref a_t_text, .int k_t_length, .ref a_t_covers, .int k_t_reached, .ref a_t_order, .ref a_t_way, .ref a_t_tried, .int k_t_acts, .int k_t_next, .ref a_t_row, .ref a_t_lids, .ref a_t_shown, .int k_t_seen, .ref a_t_seenKnot, .ref a_t_seenLid, .ref a_t_seenHad, .long k_t_seed, .ref a_t_isKept, .ref a_t_kept])), (a_t_now, .inl (cI, 100, .inl w80_f_t_now)), (a_t_text, .inl (cI, 64, .inl f_t_text))] H → va_D A [(a_t, .inr (8, [.int k_t_knots, .ref a_t_now, .int ((f_t_text (Int32.toNatClampNeg 1)) - 48), .ref a_t_text, .int k_t_length, .ref a_t_covers, .int k_t_reached, .ref a_t_order, .ref a_t_way, .ref a_t_tried, .int k_t_acts, .int k_t_next, .ref a_t_row, .ref a_t_lids, .ref a_t_shown, .int k_t_seen, .ref a_t_seenKnot, .ref a_t_seenLid, .ref a_t_seenHad, .long k_t_seed, .ref a_t_isKept, .ref a_t_kept])), (a_t_now, .inl (cI, 100, .inl w80_f_t_now)), (a_t_text, .inl (cI, 64, .inl f_t_text))] → va_S A s.heap H locs → lv_has ls 4 [(0, .ref a_t), (1, .int v80_1)] → mX11_readText_L80 k_t_length f_t_text n80 v80_1 w80_f_t_now = some R → W p l e { frames := 2, cells := 0, slots := 0, locals := 46 } s m ([.ref a_t] : List Value).toArray below meth c H locs 0 0 (kQ below G [(a_t, .inr (8, [.int k_t_knots, .ref a_t_now, .int R.2.1, .ref a_t_text, .int k_t_length, .ref a_t_covers, .int k_t_reached, .ref a_t_order, .ref a_t_way, .ref a_t_tried, .int k_t_acts, .int k_t_next, .ref a_t_row, .ref a_t_lids, .ref a_t_shown, .int k_t_seen, .ref a_t_seenKnot, .ref a_t_seenLid, .ref a_t_seenHad, .long k_t_seed, .ref a_t_isKept, .ref a_t_kept])), (a_t_now, .inl (cI, 100, .inl R.2.2)), (a_t_text, .inl (cI, 64, .inl f_t_text))] (some (.int R.1)) A ([.ref a_t] : List Value).toArray s) (F0 m 80 ls []) := by
            intro n80
            induction n80 with
            | zero => intro v80_1 w80_f_t_now H locs ls hP hD hS hl hm; rw [mX11_readText_L80] at hm; cases hm
            | succ n80 ih80 =>
              intro v80_1 w80_f_t_now H locs ls hP hD hS hl hm
              rw [mX11_readText_L80] at hm
              refine lv_iload_n hx hb dX11_readText_80 rfl (lv_at hl 1 rfl) ?_
              refine lv_aload_n hx hb dX11_readText_81 rfl (lv_at hl 0 rfl) ?_
              refine va_get (D := G) (ci := 8) (v := .int k_t_length) (C := RX11) (T := TX11) (N := 22) hx hb hts i_X11 hown hK hP 0 rfl rfl 4 (by decide) l_63 (fun _ h9 => h9) rfl dX11_readText_82 ?_
              refine lv_icmp_ge (tgt := 218) hx hb dX11_readText_85 (by decide) (fun c85 => ?_) (fun c85 => ?_)
              · rw [if_pos c85] at hm
                refine lv_bipush (v := (-9)) hx hb dX11_readText_218 (by decide) ?_
                have hm := Option.some.inj hm
                subst hm
                exact k_iret (v := (-9)) X rfl dX11_readText_220 hP hD hS
              · rw [if_neg c85] at hm
                refine lv_aload_n hx hb dX11_readText_88 rfl (lv_at hl 0 rfl) ?_
                refine va_get (D := G) (ci := 8) (v := .ref a_t_text) (C := RX11) (T := TX11) (N := 22) hx hb hts i_X11 hown hK hP 0 rfl rfl 3 (by decide) l_17 (fun _ h9 => h9) rfl dX11_readText_89 ?_
                refine lv_iload_n hx hb dX11_readText_92 rfl (lv_at hl 1 rfl) ?_
                obtain ⟨g93, hm⟩ := gd_some hm
                refine va_iald hx hb hK hP 2 0 rfl rfl (kin_ok g93) dX11_readText_93 ?_
                refine lv_bipush (v := 48) hx hb dX11_readText_94 (by decide) ?_
                refine lv_isub hx hb dX11_readText_96 ?_
                refine lv_istore_n (lv' := [(2, .int ((f_t_text (Int32.toNatClampNeg v80_1)) - 48)), (0, .ref a_t), (1, .int v80_1)]) hx hb dX11_readText_97 rfl hl (by decide) rfl (fun ls hl => ?_)
                refine lv_iload_n hx hb dX11_readText_98 rfl (lv_at hl 0 rfl) ?_
                refine lv_i2l (v := ((f_t_text (Int32.toNatClampNeg v80_1)) - 48 : Int32).toInt64) hx hb dX11_readText_99 rfl ?_
                refine lv_lconst (v := 0) hx hb dX11_readText_100 (by decide) ?_
                refine lv_aload_n hx hb dX11_readText_101 rfl (lv_at hl 1 rfl) ?_
                refine va_get (D := G) (ci := 8) (v := .int ((f_t_text (Int32.toNatClampNeg 1)) - 48)) (C := RX11) (T := TX11) (N := 22) hx hb hts i_X11 hown hK hP 0 rfl rfl 2 (by decide) l_78 (fun _ h9 => h9) rfl dX11_readText_102 ?_
                refine lv_iconst (v := 1) hx hb dX11_readText_105 (by decide) ?_
                refine lv_isub hx hb dX11_readText_106 ?_
                refine lv_i2l (v := (((f_t_text (Int32.toNatClampNeg 1)) - 48) - 1 : Int32).toInt64) hx hb dX11_readText_107 rfl ?_
                refine kcS0 (st1 := [.int (bI (mX11_in (((f_t_text (Int32.toNatClampNeg v80_1)) - 48 : Int32).toInt64) 0 ((((f_t_text (Int32.toNatClampNeg 1)) - 48) - 1 : Int32).toInt64)))]) X hA (c_X11_in l G cI cZ cE (((f_t_text (Int32.toNatClampNeg v80_1)) - 48 : Int32).toInt64) 0 ((((f_t_text (Int32.toNatClampNeg 1)) - 48) - 1 : Int32).toInt64) _ rfl) (va_cwS 3 hts gX11_readText_X11_in rfl rfl rfl hd_X11_in ⟨Nat.le_of_ble_eq_true rfl, Nat.le_of_ble_eq_true rfl⟩) hl.1 dX11_readText_108 hP hD hS [] rfl rfl rfl [] rfl (Nat.le_of_ble_eq_true rfl) rfl ⟨Nat.zero_le _, Nat.zero_le _⟩ (fun H locs hP hD hS => ?_)
                refine lv_if_eq (tgt := 139) hx hb dX11_readText_111 (by decide) (fun c111 => ?_) (fun c111 => ?_)
                · have c111 := kb0 c111
                  rw [if_neg c111] at hm
                  refine lv_iload_n hx hb dX11_readText_139 rfl (lv_at hl 2 rfl) ?_
                  have hm := Option.some.inj hm
                  subst hm
                  exact k_iret (v := v80_1) X rfl dX11_readText_140 hP hD hS
                · have c111 := kb1 c111
                  rw [if_pos c111] at hm
                  refine lv_aload_n hx hb dX11_readText_114 rfl (lv_at hl 1 rfl) ?_
                  refine lv_iconst (v := 1) hx hb dX11_readText_115 (by decide) ?_
                  obtain ⟨r116, hc116, hm⟩ := kbind hm
                  refine kcV0 (st1 := [.int r116]) X hA (c_X11_many l G cI cZ cE a_t a_t_now a_t_text a_t_covers a_t_order a_t_way a_t_tried a_t_row a_t_lids a_t_shown a_t_seenKnot a_t_seenLid a_t_seenHad a_t_isKept a_t_kept k_t_knots ((f_t_text (Int32.toNatClampNeg 1)) - 48) k_t_length k_t_reached k_t_acts k_t_next k_t_seen k_t_seed w80_f_t_now 1 r116 hc116) (cwV 1 hts gX11_readText_X11_many rfl rfl rfl hd_X11_many ⟨Nat.le_of_ble_eq_true rfl, Nat.le_of_ble_eq_true rfl⟩) 0 8 rfl rfl hl.1 dX11_readText_116 hP hD hS [0, 1] rfl rfl rfl [] rfl (Nat.le_of_ble_eq_true rfl) rfl ⟨Nat.zero_le _, Nat.zero_le _⟩ (fun H locs hP hD hS => ?_)
                  refine lv_bipush (v := 24) hx hb dX11_readText_119 (by decide) ?_
                  refine lv_icmp_eq (tgt := 139) hx hb dX11_readText_121 (by decide) (fun c121 => ?_) (fun c121 => ?_)
                  · rw [if_pos c121] at hm
                    refine lv_iload_n hx hb dX11_readText_139 rfl (lv_at hl 2 rfl) ?_
                    have hm := Option.some.inj hm
                    subst hm
                    exact k_iret (v := v80_1) X rfl dX11_readText_140 hP hD hS
                  · rw [if_neg c121] at hm
                    refine lv_aload_n hx hb dX11_readText_124 rfl (lv_at hl 1 rfl) ?_
                    refine lv_iconst (v := 1) hx hb dX11_readText_125 (by decide) ?_
                    refine lv_iload_n hx hb dX11_readText_126 rfl (lv_at hl 0 rfl) ?_
                    obtain ⟨r127, hc127, hm⟩ := kbind hm
                    refine kcV0 (st1 := [.int r127]) X hA (c_X11_outOf l G cI cZ cE a_t a_t_now a_t_text a_t_covers a_t_order a_t_way a_t_tried a_t_row a_t_lids a_t_shown a_t_seenKnot a_t_seenLid a_t_seenHad a_t_isKept a_t_kept k_t_knots ((f_t_text (Int32.toNatClampNeg 1)) - 48) k_t_length k_t_reached k_t_acts k_t_next k_t_seen k_t_seed w80_f_t_now 1 ((f_t_text (Int32.toNatClampNeg v80_1)) - 48) r127 hc127) (cwV 2 hts gX11_readText_X11_outOf rfl rfl rfl hd_X11_outOf ⟨Nat.le_of_ble_eq_true rfl, Nat.le_of_ble_eq_true rfl⟩) 0 8 rfl rfl hl.1 dX11_readText_127 hP hD hS [0, 1] rfl rfl rfl [] rfl (Nat.le_of_ble_eq_true rfl) rfl ⟨Nat.zero_le _, Nat.zero_le _⟩ (fun H locs hP hD hS => ?_)
                    refine lv_aload_n hx hb dX11_readText_130 rfl (lv_at hl 1 rfl) ?_
                    refine va_get (D := G) (ci := 8) (v := .int ((f_t_text (Int32.toNatClampNeg 1)) - 48)) (C := RX11) (T := TX11) (N := 22) hx hb hts i_X11 hown hK hP 0 rfl rfl 2 (by decide) l_78 (fun _ h9 => h9) rfl dX11_readText_131 ?_
                    refine lv_iconst (v := 1) hx hb dX11_readText_134 (by decide) ?_
                    refine lv_isub hx hb dX11_readText_135 ?_
                    refine lv_icmp_ne (tgt := 141) hx hb dX11_readText_136 (by decide) (fun c136 => ?_) (fun c136 => ?_)
                    · rw [if_neg c136] at hm
                      refine lv_iload_n hx hb dX11_readText_141 rfl (lv_at hl 2 rfl) ?_
                      refine lv_iconst (v := 1) hx hb dX11_readText_142 (by decide) ?_
                      refine lv_iadd hx hb dX11_readText_143 ?_
                      refine lv_aload_n hx hb dX11_readText_144 rfl (lv_at hl 1 rfl) ?_
                      refine va_get (D := G) (ci := 8) (v := .int k_t_length) (C := RX11) (T := TX11) (N := 22) hx hb hts i_X11 hown hK hP 0 rfl rfl 4 (by decide) l_63 (fun _ h9 => h9) rfl dX11_readText_145 ?_
                      have h167 : ∀ (s167_0 : Int32) (H : Heap) (locs : List Loc) (ls : Array Slot), va_P G vwCl [(a_t, .inr (8, [.int k_t_knots, .ref a_t_now, .int ((f_t_text (Int32.toNatClampNeg 1)) - 48), .ref a_t_text, .int k_t_length, .ref a_t_covers, .int k_t_reached, .ref a_t_order, .ref a_t_way, .ref a_t_tried, .int k_t_acts, .int k_t_next, .ref a_t_row, .ref a_t_lids, .ref a_t_shown, .int k_t_seen, .ref a_t_seenKnot, .ref a_t_seenLid, .ref a_t_seenHad, .long k_t_seed, .ref a_t_isKept, .ref a_t_kept])), (a_t_now, .inl (cI, 100, .inl w80_f_t_now)), (a_t_text, .inl (cI, 64, .inl f_t_text))] H → va_D A [(a_t, .inr (8, [.int k_t_knots, .ref a_t_now, .int ((f_t_text (Int32.toNatClampNeg 1)) - 48), .ref a_t_text, .int k_t_length, .ref a_t_covers, .int k_t_reached, .ref a_t_order, .ref a_t_way, .ref a_t_tried, .int k_t_acts, .int k_t_next, .ref a_t_row, .ref a_t_lids, .ref a_t_shown, .int k_t_seen, .ref a_t_seenKnot, .ref a_t_seenLid, .ref a_t_seenHad, .long k_t_seed, .ref a_t_isKept, .ref a_t_kept])), (a_t_now, .inl (cI, 100, .inl w80_f_t_now)), (a_t_text, .inl (cI, 64, .inl f_t_text))] → va_S A s.heap H locs → lv_has ls 4 [(0, .ref a_t), (1, .int v80_1), (2, .int ((f_t_text (Int32.toNatClampNeg v80_1)) - 48))] → mX11_readText_J167 (mX11_readText_L80 k_t_length f_t_text n80) f_t_text v80_1 w80_f_t_now s167_0 = some R → W p l e { frames := 2, cells := 0, slots := 0, locals := 46 } s m ([.ref a_t] : List Value).toArray below meth c H locs 0 0 (kQ below G [(a_t, .inr (8, [.int k_t_knots, .ref a_t_now, .int R.2.1, .ref a_t_text, .int k_t_length, .ref a_t_covers, .int k_t_reached, .ref a_t_order, .ref a_t_way, .ref a_t_tried, .int k_t_acts, .int k_t_next, .ref a_t_row, .ref a_t_lids, .ref a_t_shown, .int k_t_seen, .ref a_t_seenKnot, .ref a_t_seenLid, .ref a_t_seenHad, .long k_t_seed, .ref a_t_isKept, .ref a_t_kept])), (a_t_now, .inl (cI, 100, .inl R.2.2)), (a_t_text, .inl (cI, 64, .inl f_t_text))] (some (.int R.1)) A ([.ref a_t] : List Value).toArray s) (F0 m 167 ls [.int s167_0]) := by
                        intro s167_0 H locs ls hP hD hS hl hm
                        rw [mX11_readText_J167] at hm
                        refine lv_istore_n (lv' := [(3, .int s167_0), (0, .ref a_t), (1, .int v80_1), (2, .int ((f_t_text (Int32.toNatClampNeg v80_1)) - 48))]) hx hb dX11_readText_167 rfl hl (by decide) rfl (fun ls hl => ?_)
                        refine lv_iload_n hx hb dX11_readText_168 rfl (lv_at hl 0 rfl) ?_
                        refine lv_i2l (v := (s167_0 : Int32).toInt64) hx hb dX11_readText_169 rfl ?_
                        refine lv_lconst (v := 0) hx hb dX11_readText_170 (by decide) ?_
                        refine lv_aload_n hx hb dX11_readText_171 rfl (lv_at hl 1 rfl) ?_
                        refine va_get (D := G) (ci := 8) (v := .int ((f_t_text (Int32.toNatClampNeg 1)) - 48)) (C := RX11) (T := TX11) (N := 22) hx hb hts i_X11 hown hK hP 0 rfl rfl 2 (by decide) l_78 (fun _ h9 => h9) rfl dX11_readText_172 ?_
                        refine lv_iconst (v := 1) hx hb dX11_readText_175 (by decide) ?_
                        refine lv_isub hx hb dX11_readText_176 ?_
                        refine lv_i2l (v := (((f_t_text (Int32.toNatClampNeg 1)) - 48) - 1 : Int32).toInt64) hx hb dX11_readText_177 rfl ?_
                        refine kcS0 (st1 := [.int (bI (mX11_in ((s167_0 : Int32).toInt64) 0 ((((f_t_text (Int32.toNatClampNeg 1)) - 48) - 1 : Int32).toInt64)))]) X hA (c_X11_in l G cI cZ cE ((s167_0 : Int32).toInt64) 0 ((((f_t_text (Int32.toNatClampNeg 1)) - 48) - 1 : Int32).toInt64) _ rfl) (va_cwS 3 hts gX11_readText_X11_in rfl rfl rfl hd_X11_in ⟨Nat.le_of_ble_eq_true rfl, Nat.le_of_ble_eq_true rfl⟩) hl.1 dX11_readText_178 hP hD hS [] rfl rfl rfl [] rfl (Nat.le_of_ble_eq_true rfl) rfl ⟨Nat.zero_le _, Nat.zero_le _⟩ (fun H locs hP hD hS => ?_)
                        refine lv_if_eq (tgt := 201) hx hb dX11_readText_181 (by decide) (fun c181 => ?_) (fun c181 => ?_)
                        · have c181 := kb0 c181
                          rw [if_neg c181] at hm
                          refine lv_iload_n hx hb dX11_readText_201 rfl (lv_at hl 2 rfl) ?_
                          refine lv_iconst (v := 1) hx hb dX11_readText_202 (by decide) ?_
                          refine lv_iadd hx hb dX11_readText_203 ?_
                          have hm := Option.some.inj hm
                          subst hm
                          exact k_iret (v := v80_1 + 1) X rfl dX11_readText_204 hP hD hS
                        · have c181 := kb1 c181
                          rw [if_pos c181] at hm
                          refine lv_iload_n hx hb dX11_readText_184 rfl (lv_at hl 0 rfl) ?_
                          refine lv_iload_n hx hb dX11_readText_185 rfl (lv_at hl 3 rfl) ?_
                          refine lv_icmp_eq (tgt := 201) hx hb dX11_readText_186 (by decide) (fun c186 => ?_) (fun c186 => ?_)
                          · rw [if_pos c186] at hm
                            refine lv_iload_n hx hb dX11_readText_201 rfl (lv_at hl 2 rfl) ?_
                            refine lv_iconst (v := 1) hx hb dX11_readText_202 (by decide) ?_
                            refine lv_iadd hx hb dX11_readText_203 ?_
                            have hm := Option.some.inj hm
                            subst hm
                            exact k_iret (v := v80_1 + 1) X rfl dX11_readText_204 hP hD hS
                          · rw [if_neg c186] at hm
                            refine lv_aload_n hx hb dX11_readText_189 rfl (lv_at hl 1 rfl) ?_
                            refine lv_iconst (v := 1) hx hb dX11_readText_190 (by decide) ?_
                            refine lv_iload_n hx hb dX11_readText_191 rfl (lv_at hl 3 rfl) ?_
                            refine lv_iload_n hx hb dX11_readText_192 rfl (lv_at hl 0 rfl) ?_
                            obtain ⟨r193, hc193, hm⟩ := kbind hm
                            refine kcV0 (st1 := [.int r193]) X hA (c_X11_find l G cI cZ cE a_t a_t_now a_t_text a_t_covers a_t_order a_t_way a_t_tried a_t_row a_t_lids a_t_shown a_t_seenKnot a_t_seenLid a_t_seenHad a_t_isKept a_t_kept k_t_knots ((f_t_text (Int32.toNatClampNeg 1)) - 48) k_t_length k_t_reached k_t_acts k_t_next k_t_seen k_t_seed w80_f_t_now 1 ((f_t_text (Int32.toNatClampNeg v80_1)) - 48) s167_0 r193 hc193) (cwV 3 hts gX11_readText_X11_find rfl rfl rfl hd_X11_find ⟨Nat.le_of_ble_eq_true rfl, Nat.le_of_ble_eq_true rfl⟩) 0 8 rfl rfl hl.1 dX11_readText_193 hP hD hS [0, 1] rfl rfl rfl [] rfl (Nat.le_of_ble_eq_true rfl) rfl ⟨Nat.zero_le _, Nat.zero_le _⟩ (fun H locs hP hD hS => ?_)
                            refine lv_bipush (v := (-9)) hx hb dX11_readText_196 (by decide) ?_
                            refine lv_icmp_eq (tgt := 205) hx hb dX11_readText_198 (by decide) (fun c198 => ?_) (fun c198 => ?_)
                            · rw [if_pos c198] at hm
                              refine lv_aload_n hx hb dX11_readText_205 rfl (lv_at hl 1 rfl) ?_
                              refine lv_iconst (v := 1) hx hb dX11_readText_206 (by decide) ?_
                              refine lv_iload_n hx hb dX11_readText_207 rfl (lv_at hl 3 rfl) ?_
                              refine lv_iload_n hx hb dX11_readText_208 rfl (lv_at hl 0 rfl) ?_
                              obtain ⟨r209, hc209, hm⟩ := kbind hm
                              refine kcV (ws1 := [(a_t, .inr (8, [.int k_t_knots, .ref a_t_now, .int ((f_t_text (Int32.toNatClampNeg 1)) - 48), .ref a_t_text, .int k_t_length, .ref a_t_covers, .int k_t_reached, .ref a_t_order, .ref a_t_way, .ref a_t_tried, .int k_t_acts, .int k_t_next, .ref a_t_row, .ref a_t_lids, .ref a_t_shown, .int k_t_seen, .ref a_t_seenKnot, .ref a_t_seenLid, .ref a_t_seenHad, .long k_t_seed, .ref a_t_isKept, .ref a_t_kept])), (a_t_now, .inl (cI, 100, .inl r209)), (a_t_text, .inl (cI, 64, .inl f_t_text))]) (st1 := []) X hA (c_X11_insertOn l G cI cZ cE a_t a_t_now a_t_text a_t_covers a_t_order a_t_way a_t_tried a_t_row a_t_lids a_t_shown a_t_seenKnot a_t_seenLid a_t_seenHad a_t_isKept a_t_kept k_t_knots ((f_t_text (Int32.toNatClampNeg 1)) - 48) k_t_length k_t_reached k_t_acts k_t_next k_t_seen k_t_seed w80_f_t_now 1 ((f_t_text (Int32.toNatClampNeg v80_1)) - 48) s167_0 r209 hc209) (cwV 3 hts gX11_readText_X11_insertOn rfl rfl rfl hd_X11_insertOn ⟨Nat.le_of_ble_eq_true rfl, Nat.le_of_ble_eq_true rfl⟩) 0 8 rfl rfl hl.1 dX11_readText_209 hP hD hS [0, 1] rfl rfl rfl rfl rfl [] rfl (Nat.le_of_ble_eq_true rfl) rfl ⟨Nat.zero_le _, Nat.zero_le _⟩ (fun H locs hP hD hS => ?_)
                              refine lv_iinc (v := v80_1 + 2) (lv' := [(1, .int (v80_1 + 2)), (3, .int s167_0), (0, .ref a_t), (2, .int ((f_t_text (Int32.toNatClampNeg v80_1)) - 48))]) hx hb dX11_readText_212 hl (k := 2) rfl rfl (by decide) rfl (fun ls hl => ?_)
                              refine lv_goto (tgt := 80) hx hb dX11_readText_215 (by decide) ?_
                              exact ih80 (v80_1 + 2) r209 _ _ _ hP hD hS (lv_sub hl [2, 0] rfl) hm
                            · rw [if_neg c198] at hm
                              refine lv_iload_n hx hb dX11_readText_201 rfl (lv_at hl 2 rfl) ?_
                              refine lv_iconst (v := 1) hx hb dX11_readText_202 (by decide) ?_
                              refine lv_iadd hx hb dX11_readText_203 ?_
                              have hm := Option.some.inj hm
                              subst hm
                              exact k_iret (v := v80_1 + 1) X rfl dX11_readText_204 hP hD hS
                      refine lv_icmp_ge (tgt := 165) hx hb dX11_readText_148 (by decide) (fun c148 => ?_) (fun c148 => ?_)
                      · rw [if_pos c148] at hm
                        refine lv_bipush (v := (-9)) hx hb dX11_readText_165 (by decide) ?_
                        exact h167 (-9) _ _ _ hP hD hS (lv_sub hl [1, 2, 0] rfl) hm
                      · rw [if_neg c148] at hm
                        refine lv_aload_n hx hb dX11_readText_151 rfl (lv_at hl 1 rfl) ?_
                        refine va_get (D := G) (ci := 8) (v := .ref a_t_text) (C := RX11) (T := TX11) (N := 22) hx hb hts i_X11 hown hK hP 0 rfl rfl 3 (by decide) l_17 (fun _ h9 => h9) rfl dX11_readText_152 ?_
                        refine lv_iload_n hx hb dX11_readText_155 rfl (lv_at hl 2 rfl) ?_
                        refine lv_iconst (v := 1) hx hb dX11_readText_156 (by decide) ?_
                        refine lv_iadd hx hb dX11_readText_157 ?_
                        obtain ⟨g158, hm⟩ := gd_some hm
                        refine va_iald hx hb hK hP 2 0 rfl rfl (kin_ok g158) dX11_readText_158 ?_
                        refine lv_bipush (v := 48) hx hb dX11_readText_159 (by decide) ?_
                        refine lv_isub hx hb dX11_readText_161 ?_
                        refine lv_goto (tgt := 167) hx hb dX11_readText_162 (by decide) ?_
                        exact h167 ((f_t_text (Int32.toNatClampNeg (v80_1 + 1))) - 48) _ _ _ hP hD hS (lv_sub hl [1, 2, 0] rfl) hm
                    · rw [if_pos c136] at hm
                      refine lv_iload_n hx hb dX11_readText_139 rfl (lv_at hl 2 rfl) ?_
                      have hm := Option.some.inj hm
                      subst hm
                      exact k_iret (v := v80_1) X rfl dX11_readText_140 hP hD hS
          exact h80 kFU 2 (upd (upd f_t_now (Int32.toNatClampNeg 50) 0) (Int32.toNatClampNeg 51) 1) _ _ _ hP hD hS (lv_sub hl [1, 0] rfl) hm
        · have c60 := kb0 c60
          rw [if_neg c60] at hm
          refine lv_iconst (v := 1) hx hb dX11_readText_63 (by decide) ?_
          have hm := Option.some.inj hm
          subst hm
          exact k_iret (v := 1) X rfl dX11_readText_64 hP hD hS
    · rw [if_neg c31] at hm
      refine lv_iconst (v := 0) hx hb dX11_readText_34 (by decide) ?_
      have hm := Option.some.inj hm
      subst hm
      exact k_iret (v := 0) X rfl dX11_readText_35 hP hD hS
theorem hd_X11_readText : yX11_readText.cls = RX11 ∧ yX11_readText.cls ≠ "java/lang/invoke/MethodHandle" ∧ yX11_readText.cls ≠ "java/lang/invoke/VarHandle" ∧ (parseMethodDescriptor yX11_readText.desc).map (fun d => d.parameters.length) = some 0 := by decide +kernel
/-! CoverOrderModel fault -/
set_option maxRecDepth 100000 in
set_option maxHeartbeats 4000000 in
theorem c_X11_fault (l : Launch) (G : va_G) (cI cZ cE : ClassId) (a_t a_t_now a_t_text a_t_covers a_t_order a_t_way a_t_tried a_t_row a_t_lids a_t_shown a_t_seenKnot a_t_seenLid a_t_seenHad a_t_isKept a_t_kept : Nat) (k_t_knots : Int32) (k_t_readKnots : Int32) (k_t_length : Int32) (k_t_reached : Int32) (k_t_acts : Int32) (k_t_next : Int32) (k_t_seen : Int32) (k_t_seed : Int64) (f_t_now : Nat → Int32) (f_t_text : Nat → Int32) (R : Int32 × Int32 × (Nat → Int32)) (hm : mX11_fault k_t_readKnots k_t_length f_t_now f_t_text = some R) : kM l yX11_fault wsX11_fault { frames := 3, cells := 0, slots := 0, locals := 69 } G cI cZ cE [.ref a_t] [(a_t, .inr (8, [.int k_t_knots, .ref a_t_now, .int k_t_readKnots, .ref a_t_text, .int k_t_length, .ref a_t_covers, .int k_t_reached, .ref a_t_order, .ref a_t_way, .ref a_t_tried, .int k_t_acts, .int k_t_next, .ref a_t_row, .ref a_t_lids, .ref a_t_shown, .int k_t_seen, .ref a_t_seenKnot, .ref a_t_seenLid, .ref a_t_seenHad, .long k_t_seed, .ref a_t_isKept, .ref a_t_kept])), (a_t_now, .inl (cI, 100, .inl f_t_now)), (a_t_text, .inl (cI, 64, .inl f_t_text))] [(a_t, .inr (8, [.int k_t_knots, .ref a_t_now, .int R.2.1, .ref a_t_text, .int k_t_length, .ref a_t_covers, .int k_t_reached, .ref a_t_order, .ref a_t_way, .ref a_t_tried, .int k_t_acts, .int k_t_next, .ref a_t_row, .ref a_t_lids, .ref a_t_shown, .int k_t_seen, .ref a_t_seenKnot, .ref a_t_seenLid, .ref a_t_seenHad, .long k_t_seed, .ref a_t_isKept, .ref a_t_kept])), (a_t_now, .inl (cI, 100, .inl R.2.2)), (a_t_text, .inl (cI, 64, .inl f_t_text))] (some (.int R.1)) := by
  refine kM_of cX11_fault 1 (some .int) RX11 (by decide) rfl rfl (Nat.le_of_ble_eq_true rfl) ?_
  intro p e s m below meth c A ls X hA hP hD hS hl
  have hx := X.1.1
  have hb := X.1.2.1
  have hts := X.1.2.2.2.2
  have hown := X.1.2.2.2.1
  have hK := X.2.2.2.1
  have hl : lv_has ls 1 [(0, .ref a_t)] := hl
  rw [mX11_fault] at hm
  refine lv_aload_n hx hb dX11_fault_0 rfl (lv_at hl 0 rfl) ?_
  obtain ⟨r1, hc1, hm⟩ := kbind hm
  refine kcV (ws1 := [(a_t, .inr (8, [.int k_t_knots, .ref a_t_now, .int r1.2.1, .ref a_t_text, .int k_t_length, .ref a_t_covers, .int k_t_reached, .ref a_t_order, .ref a_t_way, .ref a_t_tried, .int k_t_acts, .int k_t_next, .ref a_t_row, .ref a_t_lids, .ref a_t_shown, .int k_t_seen, .ref a_t_seenKnot, .ref a_t_seenLid, .ref a_t_seenHad, .long k_t_seed, .ref a_t_isKept, .ref a_t_kept])), (a_t_now, .inl (cI, 100, .inl r1.2.2)), (a_t_text, .inl (cI, 64, .inl f_t_text))]) (st1 := [.int r1.1]) X hA (c_X11_readText l G cI cZ cE a_t a_t_now a_t_text a_t_covers a_t_order a_t_way a_t_tried a_t_row a_t_lids a_t_shown a_t_seenKnot a_t_seenLid a_t_seenHad a_t_isKept a_t_kept k_t_knots k_t_readKnots k_t_length k_t_reached k_t_acts k_t_next k_t_seen k_t_seed f_t_now f_t_text r1 hc1) (cwV 0 hts gX11_fault_X11_readText rfl rfl rfl hd_X11_readText ⟨Nat.le_of_ble_eq_true rfl, Nat.le_of_ble_eq_true rfl⟩) 0 8 rfl rfl hl.1 dX11_fault_1 hP hD hS [0, 1, 2] rfl rfl rfl rfl rfl [] rfl (Nat.le_of_ble_eq_true rfl) rfl ⟨Nat.zero_le _, Nat.zero_le _⟩ (fun H locs hP hD hS => ?_)
  have hm := Option.some.inj hm
  subst hm
  exact k_iret (v := r1.1) X rfl dX11_fault_4 hP hD hS
theorem hd_X11_fault : yX11_fault.cls = RX11 ∧ yX11_fault.cls ≠ "java/lang/invoke/MethodHandle" ∧ yX11_fault.cls ≠ "java/lang/invoke/VarHandle" ∧ (parseMethodDescriptor yX11_fault.desc).map (fun d => d.parameters.length) = some 0 := by decide +kernel
/-! CoverOrderModel graph -/
set_option maxRecDepth 100000 in
set_option maxHeartbeats 4000000 in
theorem c_X11_graph (l : Launch) (G : va_G) (cI cZ cE : ClassId) (a_t a_t_now a_t_text a_t_covers a_t_order a_t_way a_t_tried a_t_row a_t_lids a_t_shown a_t_seenKnot a_t_seenLid a_t_seenHad a_t_isKept a_t_kept : Nat) (k_t_knots : Int32) (k_t_readKnots : Int32) (k_t_length : Int32) (k_t_reached : Int32) (k_t_acts : Int32) (k_t_next : Int32) (k_t_seen : Int32) (k_t_seed : Int64) (f_t_now : Nat → Int32) (f_t_text : Nat → Int32) (f_t_isKept : Nat → Int32) (R : Int32 × Int32 × Int32 × Int32 × (Nat → Int32) × (Nat → Int32)) (hm : mX11_graph k_t_knots k_t_readKnots k_t_length k_t_acts f_t_now f_t_text f_t_isKept = some R) : kM l yX11_graph wsX11_graph { frames := 3, cells := 0, slots := 0, locals := 69 } G cI cZ cE [.ref a_t] [(a_t, .inr (8, [.int k_t_knots, .ref a_t_now, .int k_t_readKnots, .ref a_t_text, .int k_t_length, .ref a_t_covers, .int k_t_reached, .ref a_t_order, .ref a_t_way, .ref a_t_tried, .int k_t_acts, .int k_t_next, .ref a_t_row, .ref a_t_lids, .ref a_t_shown, .int k_t_seen, .ref a_t_seenKnot, .ref a_t_seenLid, .ref a_t_seenHad, .long k_t_seed, .ref a_t_isKept, .ref a_t_kept])), (a_t_now, .inl (cI, 100, .inl f_t_now)), (a_t_text, .inl (cI, 64, .inl f_t_text)), (a_t_isKept, .inl (cZ, 2, .inl f_t_isKept))] [(a_t, .inr (8, [.int R.2.1, .ref a_t_now, .int R.2.2.1, .ref a_t_text, .int k_t_length, .ref a_t_covers, .int k_t_reached, .ref a_t_order, .ref a_t_way, .ref a_t_tried, .int R.2.2.2.1, .int k_t_next, .ref a_t_row, .ref a_t_lids, .ref a_t_shown, .int k_t_seen, .ref a_t_seenKnot, .ref a_t_seenLid, .ref a_t_seenHad, .long k_t_seed, .ref a_t_isKept, .ref a_t_kept])), (a_t_now, .inl (cI, 100, .inl R.2.2.2.2.1)), (a_t_text, .inl (cI, 64, .inl f_t_text)), (a_t_isKept, .inl (cZ, 2, .inl R.2.2.2.2.2))] (some (.int R.1)) := by
  refine kM_of cX11_graph 2 (some .int) RX11 (by decide) rfl rfl (Nat.le_of_ble_eq_true rfl) ?_
  intro p e s m below meth c A ls X hA hP hD hS hl
  have hx := X.1.1
  have hb := X.1.2.1
  have hts := X.1.2.2.2.2
  have hown := X.1.2.2.2.1
  have hK := X.2.2.2.1
  have l_78 : (.fieldLink RX11 78 "CoverOrderModel" "readKnots" "I" : Cond).before _ s = true := hts _ (List.mem_of_getElem? (i := 1) (by decide +kernel))
  have i_X11 : ∀ w ∈ u_ws RX11 TX11 22, w ∈ wsX11_graph := k_in _ [38, 39, 40, 41, 42, 43, 44, 45, 46, 47, 48, 49, 50, 51, 52, 53, 54, 55, 56, 57, 58, 59] (by decide +kernel)
  have l_7 : (.fieldLink RX11 7 "CoverOrderModel" "knots" "I" : Cond).before _ s = true := hts _ (List.mem_of_getElem? (i := 2) (by decide +kernel))
  have l_96 : (.fieldLink RX11 96 "CoverOrderModel" "acts" "I" : Cond).before _ s = true := hts _ (List.mem_of_getElem? (i := 4) (by decide +kernel))
  have l_50 : (.fieldLink RX11 50 "CoverOrderModel" "isKept" "[Z" : Cond).before _ s = true := hts _ (List.mem_of_getElem? (i := 5) (by decide +kernel))
  have l_13 : (.fieldLink RX11 13 "CoverOrderModel" "now" "[I" : Cond).before _ s = true := hts _ (List.mem_of_getElem? (i := 3) (by decide +kernel))
  have hl : lv_has ls 2 [(0, .ref a_t)] := hl
  rw [mX11_graph] at hm
  refine lv_aload_n hx hb dX11_graph_0 rfl (lv_at hl 0 rfl) ?_
  obtain ⟨r1, hc1, hm⟩ := kbind hm
  refine kcV (ws1 := [(a_t, .inr (8, [.int k_t_knots, .ref a_t_now, .int r1.2.1, .ref a_t_text, .int k_t_length, .ref a_t_covers, .int k_t_reached, .ref a_t_order, .ref a_t_way, .ref a_t_tried, .int k_t_acts, .int k_t_next, .ref a_t_row, .ref a_t_lids, .ref a_t_shown, .int k_t_seen, .ref a_t_seenKnot, .ref a_t_seenLid, .ref a_t_seenHad, .long k_t_seed, .ref a_t_isKept, .ref a_t_kept])), (a_t_now, .inl (cI, 100, .inl r1.2.2)), (a_t_text, .inl (cI, 64, .inl f_t_text)), (a_t_isKept, .inl (cZ, 2, .inl f_t_isKept))]) (st1 := [.int r1.1]) X hA (c_X11_readText l G cI cZ cE a_t a_t_now a_t_text a_t_covers a_t_order a_t_way a_t_tried a_t_row a_t_lids a_t_shown a_t_seenKnot a_t_seenLid a_t_seenHad a_t_isKept a_t_kept k_t_knots k_t_readKnots k_t_length k_t_reached k_t_acts k_t_next k_t_seen k_t_seed f_t_now f_t_text r1 hc1) (cwV 0 hts gX11_graph_X11_readText rfl rfl rfl hd_X11_readText ⟨Nat.le_of_ble_eq_true rfl, Nat.le_of_ble_eq_true rfl⟩) 0 8 rfl rfl hl.1 dX11_graph_1 hP hD hS [0, 1, 2] rfl rfl rfl rfl rfl [] rfl (Nat.le_of_ble_eq_true rfl) rfl ⟨Nat.zero_le _, Nat.zero_le _⟩ (fun H locs hP hD hS => ?_)
  refine lv_bipush (v := (-9)) hx hb dX11_graph_4 (by decide) ?_
  refine lv_icmp_eq (tgt := 12) hx hb dX11_graph_6 (by decide) (fun c6 => ?_) (fun c6 => ?_)
  · rw [if_pos c6] at hm
    refine lv_aload_n hx hb dX11_graph_12 rfl (lv_at hl 0 rfl) ?_
    refine lv_aload_n hx hb dX11_graph_13 rfl (lv_at hl 0 rfl) ?_
    refine va_get (D := G) (ci := 8) (v := .int r1.2.1) (C := RX11) (T := TX11) (N := 22) hx hb hts i_X11 hown hK hP 0 rfl rfl 2 (by decide) l_78 (fun _ h9 => h9) rfl dX11_graph_14 ?_
    refine va_put (D := G) (ci := 8) (v := .int r1.2.1) (ty := .int) (C := RX11) (T := TX11) (N := 22) hx hb hts i_X11 tyX11 tyX11_ok nmX11 hown hK hP hD hS 0 rfl rfl 0 (by decide) l_7 (fun _ h9 => h9) rfl (by decide +kernel) rfl rfl (Nat.le_of_ble_eq_true rfl) dX11_graph_17 (fun H locs hP hD hS => ?_)
    have hP : va_P G vwCl [(a_t, .inr (8, [.int r1.2.1, .ref a_t_now, .int r1.2.1, .ref a_t_text, .int k_t_length, .ref a_t_covers, .int k_t_reached, .ref a_t_order, .ref a_t_way, .ref a_t_tried, .int k_t_acts, .int k_t_next, .ref a_t_row, .ref a_t_lids, .ref a_t_shown, .int k_t_seen, .ref a_t_seenKnot, .ref a_t_seenLid, .ref a_t_seenHad, .long k_t_seed, .ref a_t_isKept, .ref a_t_kept])), (a_t_now, .inl (cI, 100, .inl r1.2.2)), (a_t_text, .inl (cI, 64, .inl f_t_text)), (a_t_isKept, .inl (cZ, 2, .inl f_t_isKept))] H := hP
    have hD : va_D A [(a_t, .inr (8, [.int r1.2.1, .ref a_t_now, .int r1.2.1, .ref a_t_text, .int k_t_length, .ref a_t_covers, .int k_t_reached, .ref a_t_order, .ref a_t_way, .ref a_t_tried, .int k_t_acts, .int k_t_next, .ref a_t_row, .ref a_t_lids, .ref a_t_shown, .int k_t_seen, .ref a_t_seenKnot, .ref a_t_seenLid, .ref a_t_seenHad, .long k_t_seed, .ref a_t_isKept, .ref a_t_kept])), (a_t_now, .inl (cI, 100, .inl r1.2.2)), (a_t_text, .inl (cI, 64, .inl f_t_text)), (a_t_isKept, .inl (cZ, 2, .inl f_t_isKept))] := hD
    refine lv_iconst (v := 0) hx hb dX11_graph_20 (by decide) ?_
    refine lv_istore_n (lv' := [(1, .int 0), (0, .ref a_t)]) hx hb dX11_graph_21 rfl hl (by decide) rfl (fun ls hl => ?_)
    have h22 : ∀ (n22 : Nat), ∀ (v22_1 : Int32) (w22_f_t_now : Nat → Int32) (H : Heap) (locs : List Loc) (ls : Array Slot), va_P G vwCl [(a_t, .inr (8, [.int r1.2.1, .ref a_t_now, .int r1.2.1, .ref a_t_text, .int k_t_length, .ref a_t_covers, .int k_t_reached, .ref a_t_order, .ref a_t_way, .ref a_t_tried, .int k_t_acts, .int k_t_next, .ref a_t_row, .ref a_t_lids, .ref a_t_shown, .int k_t_seen, .ref a_t_seenKnot, .ref a_t_seenLid, .ref a_t_seenHad, .long k_t_seed, .ref a_t_isKept, .ref a_t_kept])), (a_t_now, .inl (cI, 100, .inl w22_f_t_now)), (a_t_text, .inl (cI, 64, .inl f_t_text)), (a_t_isKept, .inl (cZ, 2, .inl f_t_isKept))] H → va_D A [(a_t, .inr (8, [.int r1.2.1, .ref a_t_now, .int r1.2.1, .ref a_t_text, .int k_t_length, .ref a_t_covers, .int k_t_reached, .ref a_t_order, .ref a_t_way, .ref a_t_tried, .int k_t_acts, .int k_t_next, .ref a_t_row, .ref a_t_lids, .ref a_t_shown, .int k_t_seen, .ref a_t_seenKnot, .ref a_t_seenLid, .ref a_t_seenHad, .long k_t_seed, .ref a_t_isKept, .ref a_t_kept])), (a_t_now, .inl (cI, 100, .inl w22_f_t_now)), (a_t_text, .inl (cI, 64, .inl f_t_text)), (a_t_isKept, .inl (cZ, 2, .inl f_t_isKept))] → va_S A s.heap H locs → lv_has ls 2 [(0, .ref a_t), (1, .int v22_1)] → mX11_graph_L22 f_t_isKept r1 n22 v22_1 w22_f_t_now = some R → W p l e { frames := 3, cells := 0, slots := 0, locals := 69 } s m ([.ref a_t] : List Value).toArray below meth c H locs 0 0 (kQ below G [(a_t, .inr (8, [.int R.2.1, .ref a_t_now, .int R.2.2.1, .ref a_t_text, .int k_t_length, .ref a_t_covers, .int k_t_reached, .ref a_t_order, .ref a_t_way, .ref a_t_tried, .int R.2.2.2.1, .int k_t_next, .ref a_t_row, .ref a_t_lids, .ref a_t_shown, .int k_t_seen, .ref a_t_seenKnot, .ref a_t_seenLid, .ref a_t_seenHad, .long k_t_seed, .ref a_t_isKept, .ref a_t_kept])), (a_t_now, .inl (cI, 100, .inl R.2.2.2.2.1)), (a_t_text, .inl (cI, 64, .inl f_t_text)), (a_t_isKept, .inl (cZ, 2, .inl R.2.2.2.2.2))] (some (.int R.1)) A ([.ref a_t] : List Value).toArray s) (F0 m 22 ls []) := by
      intro n22
      induction n22 with
      | zero => intro v22_1 w22_f_t_now H locs ls hP hD hS hl hm; rw [mX11_graph_L22] at hm; cases hm
      | succ n22 ih22 =>
        intro v22_1 w22_f_t_now H locs ls hP hD hS hl hm
        rw [mX11_graph_L22] at hm
        refine lv_iload_n hx hb dX11_graph_22 rfl (lv_at hl 1 rfl) ?_
        refine lv_bipush (v := 50) hx hb dX11_graph_23 (by decide) ?_
        have h49 : ∀ (H : Heap) (locs : List Loc) (ls : Array Slot), va_P G vwCl [(a_t, .inr (8, [.int r1.2.1, .ref a_t_now, .int r1.2.1, .ref a_t_text, .int k_t_length, .ref a_t_covers, .int k_t_reached, .ref a_t_order, .ref a_t_way, .ref a_t_tried, .int k_t_acts, .int k_t_next, .ref a_t_row, .ref a_t_lids, .ref a_t_shown, .int k_t_seen, .ref a_t_seenKnot, .ref a_t_seenLid, .ref a_t_seenHad, .long k_t_seed, .ref a_t_isKept, .ref a_t_kept])), (a_t_now, .inl (cI, 100, .inl w22_f_t_now)), (a_t_text, .inl (cI, 64, .inl f_t_text)), (a_t_isKept, .inl (cZ, 2, .inl f_t_isKept))] H → va_D A [(a_t, .inr (8, [.int r1.2.1, .ref a_t_now, .int r1.2.1, .ref a_t_text, .int k_t_length, .ref a_t_covers, .int k_t_reached, .ref a_t_order, .ref a_t_way, .ref a_t_tried, .int k_t_acts, .int k_t_next, .ref a_t_row, .ref a_t_lids, .ref a_t_shown, .int k_t_seen, .ref a_t_seenKnot, .ref a_t_seenLid, .ref a_t_seenHad, .long k_t_seed, .ref a_t_isKept, .ref a_t_kept])), (a_t_now, .inl (cI, 100, .inl w22_f_t_now)), (a_t_text, .inl (cI, 64, .inl f_t_text)), (a_t_isKept, .inl (cZ, 2, .inl f_t_isKept))] → va_S A s.heap H locs → lv_has ls 2 [(0, .ref a_t)] → mX11_graph_J49 f_t_isKept r1 w22_f_t_now = some R → W p l e { frames := 3, cells := 0, slots := 0, locals := 69 } s m ([.ref a_t] : List Value).toArray below meth c H locs 0 0 (kQ below G [(a_t, .inr (8, [.int R.2.1, .ref a_t_now, .int R.2.2.1, .ref a_t_text, .int k_t_length, .ref a_t_covers, .int k_t_reached, .ref a_t_order, .ref a_t_way, .ref a_t_tried, .int R.2.2.2.1, .int k_t_next, .ref a_t_row, .ref a_t_lids, .ref a_t_shown, .int k_t_seen, .ref a_t_seenKnot, .ref a_t_seenLid, .ref a_t_seenHad, .long k_t_seed, .ref a_t_isKept, .ref a_t_kept])), (a_t_now, .inl (cI, 100, .inl R.2.2.2.2.1)), (a_t_text, .inl (cI, 64, .inl f_t_text)), (a_t_isKept, .inl (cZ, 2, .inl R.2.2.2.2.2))] (some (.int R.1)) A ([.ref a_t] : List Value).toArray s) (F0 m 49 ls []) := by
          intro H locs ls hP hD hS hl hm
          rw [mX11_graph_J49] at hm
          refine lv_aload_n hx hb dX11_graph_49 rfl (lv_at hl 0 rfl) ?_
          refine lv_iconst (v := 0) hx hb dX11_graph_50 (by decide) ?_
          refine va_put (D := G) (ci := 8) (v := .int 0) (ty := .int) (C := RX11) (T := TX11) (N := 22) hx hb hts i_X11 tyX11 tyX11_ok nmX11 hown hK hP hD hS 0 rfl rfl 10 (by decide) l_96 (fun _ h9 => h9) rfl (by decide +kernel) rfl rfl (Nat.le_of_ble_eq_true rfl) dX11_graph_51 (fun H locs hP hD hS => ?_)
          have hP : va_P G vwCl [(a_t, .inr (8, [.int r1.2.1, .ref a_t_now, .int r1.2.1, .ref a_t_text, .int k_t_length, .ref a_t_covers, .int k_t_reached, .ref a_t_order, .ref a_t_way, .ref a_t_tried, .int 0, .int k_t_next, .ref a_t_row, .ref a_t_lids, .ref a_t_shown, .int k_t_seen, .ref a_t_seenKnot, .ref a_t_seenLid, .ref a_t_seenHad, .long k_t_seed, .ref a_t_isKept, .ref a_t_kept])), (a_t_now, .inl (cI, 100, .inl w22_f_t_now)), (a_t_text, .inl (cI, 64, .inl f_t_text)), (a_t_isKept, .inl (cZ, 2, .inl f_t_isKept))] H := hP
          have hD : va_D A [(a_t, .inr (8, [.int r1.2.1, .ref a_t_now, .int r1.2.1, .ref a_t_text, .int k_t_length, .ref a_t_covers, .int k_t_reached, .ref a_t_order, .ref a_t_way, .ref a_t_tried, .int 0, .int k_t_next, .ref a_t_row, .ref a_t_lids, .ref a_t_shown, .int k_t_seen, .ref a_t_seenKnot, .ref a_t_seenLid, .ref a_t_seenHad, .long k_t_seed, .ref a_t_isKept, .ref a_t_kept])), (a_t_now, .inl (cI, 100, .inl w22_f_t_now)), (a_t_text, .inl (cI, 64, .inl f_t_text)), (a_t_isKept, .inl (cZ, 2, .inl f_t_isKept))] := hD
          refine lv_aload_n hx hb dX11_graph_54 rfl (lv_at hl 0 rfl) ?_
          refine va_get (D := G) (ci := 8) (v := .ref a_t_isKept) (C := RX11) (T := TX11) (N := 22) hx hb hts i_X11 hown hK hP 0 rfl rfl 20 (by decide) l_50 (fun _ h9 => h9) rfl dX11_graph_55 ?_
          refine lv_iconst (v := 0) hx hb dX11_graph_58 (by decide) ?_
          refine lv_iconst (v := 0) hx hb dX11_graph_59 (by decide) ?_
          refine va_zast hx hb hK hP hD hS 3 1 rfl rfl (kin_ok (by decide)) dX11_graph_60 (fun H locs hP hD hS => ?_)
          have hP : va_P G vwCl [(a_t, .inr (8, [.int r1.2.1, .ref a_t_now, .int r1.2.1, .ref a_t_text, .int k_t_length, .ref a_t_covers, .int k_t_reached, .ref a_t_order, .ref a_t_way, .ref a_t_tried, .int 0, .int k_t_next, .ref a_t_row, .ref a_t_lids, .ref a_t_shown, .int k_t_seen, .ref a_t_seenKnot, .ref a_t_seenLid, .ref a_t_seenHad, .long k_t_seed, .ref a_t_isKept, .ref a_t_kept])), (a_t_now, .inl (cI, 100, .inl w22_f_t_now)), (a_t_text, .inl (cI, 64, .inl f_t_text)), (a_t_isKept, .inl (cZ, 2, .inl (upd f_t_isKept (Int32.toNatClampNeg 0) (vp_nar .boolean 0))))] H := hP
          have hD : va_D A [(a_t, .inr (8, [.int r1.2.1, .ref a_t_now, .int r1.2.1, .ref a_t_text, .int k_t_length, .ref a_t_covers, .int k_t_reached, .ref a_t_order, .ref a_t_way, .ref a_t_tried, .int 0, .int k_t_next, .ref a_t_row, .ref a_t_lids, .ref a_t_shown, .int k_t_seen, .ref a_t_seenKnot, .ref a_t_seenLid, .ref a_t_seenHad, .long k_t_seed, .ref a_t_isKept, .ref a_t_kept])), (a_t_now, .inl (cI, 100, .inl w22_f_t_now)), (a_t_text, .inl (cI, 64, .inl f_t_text)), (a_t_isKept, .inl (cZ, 2, .inl (upd f_t_isKept (Int32.toNatClampNeg 0) (vp_nar .boolean 0))))] := hD
          refine lv_aload_n hx hb dX11_graph_61 rfl (lv_at hl 0 rfl) ?_
          refine va_get (D := G) (ci := 8) (v := .ref a_t_isKept) (C := RX11) (T := TX11) (N := 22) hx hb hts i_X11 hown hK hP 0 rfl rfl 20 (by decide) l_50 (fun _ h9 => h9) rfl dX11_graph_62 ?_
          refine lv_iconst (v := 1) hx hb dX11_graph_65 (by decide) ?_
          refine lv_iconst (v := 0) hx hb dX11_graph_66 (by decide) ?_
          refine va_zast hx hb hK hP hD hS 3 1 rfl rfl (kin_ok (by decide)) dX11_graph_67 (fun H locs hP hD hS => ?_)
          have hP : va_P G vwCl [(a_t, .inr (8, [.int r1.2.1, .ref a_t_now, .int r1.2.1, .ref a_t_text, .int k_t_length, .ref a_t_covers, .int k_t_reached, .ref a_t_order, .ref a_t_way, .ref a_t_tried, .int 0, .int k_t_next, .ref a_t_row, .ref a_t_lids, .ref a_t_shown, .int k_t_seen, .ref a_t_seenKnot, .ref a_t_seenLid, .ref a_t_seenHad, .long k_t_seed, .ref a_t_isKept, .ref a_t_kept])), (a_t_now, .inl (cI, 100, .inl w22_f_t_now)), (a_t_text, .inl (cI, 64, .inl f_t_text)), (a_t_isKept, .inl (cZ, 2, .inl (upd (upd f_t_isKept (Int32.toNatClampNeg 0) (vp_nar .boolean 0)) (Int32.toNatClampNeg 1) (vp_nar .boolean 0))))] H := hP
          have hD : va_D A [(a_t, .inr (8, [.int r1.2.1, .ref a_t_now, .int r1.2.1, .ref a_t_text, .int k_t_length, .ref a_t_covers, .int k_t_reached, .ref a_t_order, .ref a_t_way, .ref a_t_tried, .int 0, .int k_t_next, .ref a_t_row, .ref a_t_lids, .ref a_t_shown, .int k_t_seen, .ref a_t_seenKnot, .ref a_t_seenLid, .ref a_t_seenHad, .long k_t_seed, .ref a_t_isKept, .ref a_t_kept])), (a_t_now, .inl (cI, 100, .inl w22_f_t_now)), (a_t_text, .inl (cI, 64, .inl f_t_text)), (a_t_isKept, .inl (cZ, 2, .inl (upd (upd f_t_isKept (Int32.toNatClampNeg 0) (vp_nar .boolean 0)) (Int32.toNatClampNeg 1) (vp_nar .boolean 0))))] := hD
          refine lv_aload_n hx hb dX11_graph_68 rfl (lv_at hl 0 rfl) ?_
          refine lv_iconst (v := 0) hx hb dX11_graph_69 (by decide) ?_
          obtain ⟨r70, hc70, hm⟩ := kbind hm
          refine kcV0 (st1 := [.int r70]) X hA (c_X11_many l G cI cZ cE a_t a_t_now a_t_text a_t_covers a_t_order a_t_way a_t_tried a_t_row a_t_lids a_t_shown a_t_seenKnot a_t_seenLid a_t_seenHad a_t_isKept a_t_kept r1.2.1 r1.2.1 k_t_length k_t_reached 0 k_t_next k_t_seen k_t_seed w22_f_t_now 0 r70 hc70) (cwV 1 hts gX11_graph_X11_many rfl rfl rfl hd_X11_many ⟨Nat.le_of_ble_eq_true rfl, Nat.le_of_ble_eq_true rfl⟩) 0 8 rfl rfl hl.1 dX11_graph_70 hP hD hS [0, 1] rfl rfl rfl [] rfl (Nat.le_of_ble_eq_true rfl) rfl ⟨Nat.zero_le _, Nat.zero_le _⟩ (fun H locs hP hD hS => ?_)
          have hm := Option.some.inj hm
          subst hm
          exact k_iret (v := r70) X rfl dX11_graph_73 hP hD hS
        refine lv_icmp_ge (tgt := 49) hx hb dX11_graph_25 (by decide) (fun c25 => ?_) (fun c25 => ?_)
        · rw [if_pos c25] at hm
          exact h49 _ _ _ hP hD hS (lv_sub hl [0] rfl) hm
        · rw [if_neg c25] at hm
          refine lv_aload_n hx hb dX11_graph_28 rfl (lv_at hl 0 rfl) ?_
          refine va_get (D := G) (ci := 8) (v := .ref a_t_now) (C := RX11) (T := TX11) (N := 22) hx hb hts i_X11 hown hK hP 0 rfl rfl 1 (by decide) l_13 (fun _ h9 => h9) rfl dX11_graph_29 ?_
          refine lv_iload_n hx hb dX11_graph_32 rfl (lv_at hl 1 rfl) ?_
          refine lv_aload_n hx hb dX11_graph_33 rfl (lv_at hl 0 rfl) ?_
          refine va_get (D := G) (ci := 8) (v := .ref a_t_now) (C := RX11) (T := TX11) (N := 22) hx hb hts i_X11 hown hK hP 0 rfl rfl 1 (by decide) l_13 (fun _ h9 => h9) rfl dX11_graph_34 ?_
          refine lv_bipush (v := 50) hx hb dX11_graph_37 (by decide) ?_
          refine lv_iload_n hx hb dX11_graph_39 rfl (lv_at hl 1 rfl) ?_
          refine lv_iadd hx hb dX11_graph_40 ?_
          obtain ⟨g41, hm⟩ := gd_some hm
          refine va_iald hx hb hK hP 1 0 rfl rfl (kin_ok g41) dX11_graph_41 ?_
          obtain ⟨g42, hm⟩ := gd_some hm
          refine va_iast hx hb hK hP hD hS 1 0 rfl rfl (kin_ok g42) dX11_graph_42 (fun H locs hP hD hS => ?_)
          have hP : va_P G vwCl [(a_t, .inr (8, [.int r1.2.1, .ref a_t_now, .int r1.2.1, .ref a_t_text, .int k_t_length, .ref a_t_covers, .int k_t_reached, .ref a_t_order, .ref a_t_way, .ref a_t_tried, .int k_t_acts, .int k_t_next, .ref a_t_row, .ref a_t_lids, .ref a_t_shown, .int k_t_seen, .ref a_t_seenKnot, .ref a_t_seenLid, .ref a_t_seenHad, .long k_t_seed, .ref a_t_isKept, .ref a_t_kept])), (a_t_now, .inl (cI, 100, .inl (upd w22_f_t_now (Int32.toNatClampNeg v22_1) (w22_f_t_now (Int32.toNatClampNeg (50 + v22_1)))))), (a_t_text, .inl (cI, 64, .inl f_t_text)), (a_t_isKept, .inl (cZ, 2, .inl f_t_isKept))] H := hP
          have hD : va_D A [(a_t, .inr (8, [.int r1.2.1, .ref a_t_now, .int r1.2.1, .ref a_t_text, .int k_t_length, .ref a_t_covers, .int k_t_reached, .ref a_t_order, .ref a_t_way, .ref a_t_tried, .int k_t_acts, .int k_t_next, .ref a_t_row, .ref a_t_lids, .ref a_t_shown, .int k_t_seen, .ref a_t_seenKnot, .ref a_t_seenLid, .ref a_t_seenHad, .long k_t_seed, .ref a_t_isKept, .ref a_t_kept])), (a_t_now, .inl (cI, 100, .inl (upd w22_f_t_now (Int32.toNatClampNeg v22_1) (w22_f_t_now (Int32.toNatClampNeg (50 + v22_1)))))), (a_t_text, .inl (cI, 64, .inl f_t_text)), (a_t_isKept, .inl (cZ, 2, .inl f_t_isKept))] := hD
          refine lv_iinc (v := v22_1 + 1) (lv' := [(1, .int (v22_1 + 1)), (0, .ref a_t)]) hx hb dX11_graph_43 hl (k := 1) rfl rfl (by decide) rfl (fun ls hl => ?_)
          refine lv_goto (tgt := 22) hx hb dX11_graph_46 (by decide) ?_
          exact ih22 (v22_1 + 1) (upd w22_f_t_now (Int32.toNatClampNeg v22_1) (w22_f_t_now (Int32.toNatClampNeg (50 + v22_1)))) _ _ _ hP hD hS (lv_sub hl [1, 0] rfl) hm
    exact h22 kFU 0 r1.2.2 _ _ _ hP hD hS (lv_sub hl [1, 0] rfl) hm
  · rw [if_neg c6] at hm
    refine lv_bipush (v := (-3)) hx hb dX11_graph_9 (by decide) ?_
    have hm := Option.some.inj hm
    subst hm
    exact k_iret (v := (-3)) X rfl dX11_graph_11 hP hD hS
theorem hd_X11_graph : yX11_graph.cls = RX11 ∧ yX11_graph.cls ≠ "java/lang/invoke/MethodHandle" ∧ yX11_graph.cls ≠ "java/lang/invoke/VarHandle" ∧ (parseMethodDescriptor yX11_graph.desc).map (fun d => d.parameters.length) = some 0 := by decide +kernel
/-! CoverOrderModel isKnot -/
set_option maxRecDepth 100000 in
set_option maxHeartbeats 4000000 in
theorem c_X11_isKnot (l : Launch) (G : va_G) (cI cZ cE : ClassId) (a_t a_t_now a_t_text a_t_covers a_t_order a_t_way a_t_tried a_t_row a_t_lids a_t_shown a_t_seenKnot a_t_seenLid a_t_seenHad a_t_isKept a_t_kept : Nat) (k_t_knots : Int32) (k_t_readKnots : Int32) (k_t_length : Int32) (k_t_reached : Int32) (k_t_acts : Int32) (k_t_next : Int32) (k_t_seen : Int32) (k_t_seed : Int64) (p1 : Int32) (R : Bool) (hm : mX11_isKnot k_t_knots p1 = R) : kM l yX11_isKnot wsX11_isKnot { frames := 1, cells := 0, slots := 0, locals := 25 } G cI cZ cE [.ref a_t, .int p1] [(a_t, .inr (8, [.int k_t_knots, .ref a_t_now, .int k_t_readKnots, .ref a_t_text, .int k_t_length, .ref a_t_covers, .int k_t_reached, .ref a_t_order, .ref a_t_way, .ref a_t_tried, .int k_t_acts, .int k_t_next, .ref a_t_row, .ref a_t_lids, .ref a_t_shown, .int k_t_seen, .ref a_t_seenKnot, .ref a_t_seenLid, .ref a_t_seenHad, .long k_t_seed, .ref a_t_isKept, .ref a_t_kept]))] [(a_t, .inr (8, [.int k_t_knots, .ref a_t_now, .int k_t_readKnots, .ref a_t_text, .int k_t_length, .ref a_t_covers, .int k_t_reached, .ref a_t_order, .ref a_t_way, .ref a_t_tried, .int k_t_acts, .int k_t_next, .ref a_t_row, .ref a_t_lids, .ref a_t_shown, .int k_t_seen, .ref a_t_seenKnot, .ref a_t_seenLid, .ref a_t_seenHad, .long k_t_seed, .ref a_t_isKept, .ref a_t_kept]))] (some (.int (bI R))) := by
  refine kM_of cX11_isKnot 2 (some .boolean) RX11 (by decide) rfl rfl (Nat.le_of_ble_eq_true rfl) ?_
  intro p e s m below meth c A ls X hA hP hD hS hl
  have hx := X.1.1
  have hb := X.1.2.1
  have hts := X.1.2.2.2.2
  have hown := X.1.2.2.2.1
  have hK := X.2.2.2.1
  have l_7 : (.fieldLink RX11 7 "CoverOrderModel" "knots" "I" : Cond).before _ s = true := hts _ (List.mem_of_getElem? (i := 1) (by decide +kernel))
  have i_X11 : ∀ w ∈ u_ws RX11 TX11 22, w ∈ wsX11_isKnot := k_in _ [6, 7, 8, 9, 10, 11, 12, 13, 14, 15, 16, 17, 18, 19, 20, 21, 22, 23, 24, 25, 26, 27] (by decide +kernel)
  have hl : lv_has ls 2 [(0, .ref a_t), (1, .int p1)] := hl
  rw [mX11_isKnot] at hm
  refine lv_iload_n hx hb dX11_isKnot_0 rfl (lv_at hl 1 rfl) ?_
  refine lv_i2l (v := (p1 : Int32).toInt64) hx hb dX11_isKnot_1 rfl ?_
  refine lv_lconst (v := 0) hx hb dX11_isKnot_2 (by decide) ?_
  refine lv_aload_n hx hb dX11_isKnot_3 rfl (lv_at hl 0 rfl) ?_
  refine va_get (D := G) (ci := 8) (v := .int k_t_knots) (C := RX11) (T := TX11) (N := 22) hx hb hts i_X11 hown hK hP 0 rfl rfl 0 (by decide) l_7 (fun _ h9 => h9) rfl dX11_isKnot_4 ?_
  refine lv_iconst (v := 1) hx hb dX11_isKnot_7 (by decide) ?_
  refine lv_isub hx hb dX11_isKnot_8 ?_
  refine lv_i2l (v := (k_t_knots - 1 : Int32).toInt64) hx hb dX11_isKnot_9 rfl ?_
  refine kcS0 (st1 := [.int (bI (mX11_in ((p1 : Int32).toInt64) 0 ((k_t_knots - 1 : Int32).toInt64)))]) X hA (c_X11_in l G cI cZ cE ((p1 : Int32).toInt64) 0 ((k_t_knots - 1 : Int32).toInt64) _ rfl) (va_cwS 3 hts gX11_isKnot_X11_in rfl rfl rfl hd_X11_in ⟨Nat.le_of_ble_eq_true rfl, Nat.le_of_ble_eq_true rfl⟩) hl.1 dX11_isKnot_10 hP hD hS [] rfl rfl rfl [] rfl (Nat.le_of_ble_eq_true rfl) rfl ⟨Nat.zero_le _, Nat.zero_le _⟩ (fun H locs hP hD hS => ?_)
  subst hm
  exact k_zret (v := (mX11_in ((p1 : Int32).toInt64) 0 ((k_t_knots - 1 : Int32).toInt64))) X rfl dX11_isKnot_13 hP hD hS
theorem hd_X11_isKnot : yX11_isKnot.cls = RX11 ∧ yX11_isKnot.cls ≠ "java/lang/invoke/MethodHandle" ∧ yX11_isKnot.cls ≠ "java/lang/invoke/VarHandle" ∧ (parseMethodDescriptor yX11_isKnot.desc).map (fun d => d.parameters.length) = some 1 := by decide +kernel
/-! CoverOrderModel reachedBy -/
set_option maxRecDepth 100000 in
set_option maxHeartbeats 4000000 in
theorem c_X11_reachedBy (l : Launch) (G : va_G) (cI cZ cE : ClassId) (a_t a_t_now a_t_text a_t_covers a_t_order a_t_way a_t_tried a_t_row a_t_lids a_t_shown a_t_seenKnot a_t_seenLid a_t_seenHad a_t_isKept a_t_kept : Nat) (k_t_knots : Int32) (k_t_readKnots : Int32) (k_t_length : Int32) (k_t_reached : Int32) (k_t_acts : Int32) (k_t_next : Int32) (k_t_seen : Int32) (k_t_seed : Int64) (f_t_now : Nat → Int32) (p1 : Int32) (p2 : Int32) (p3 : Int32) (p4 : Int32) (R : Int32) (hm : mX11_reachedBy f_t_now p1 p2 p3 p4 = some R) : kM l yX11_reachedBy wsX11_reachedBy { frames := 1, cells := 0, slots := 0, locals := 22 } G cI cZ cE [.ref a_t, .int p1, .int p2, .int p3, .int p4] [(a_t, .inr (8, [.int k_t_knots, .ref a_t_now, .int k_t_readKnots, .ref a_t_text, .int k_t_length, .ref a_t_covers, .int k_t_reached, .ref a_t_order, .ref a_t_way, .ref a_t_tried, .int k_t_acts, .int k_t_next, .ref a_t_row, .ref a_t_lids, .ref a_t_shown, .int k_t_seen, .ref a_t_seenKnot, .ref a_t_seenLid, .ref a_t_seenHad, .long k_t_seed, .ref a_t_isKept, .ref a_t_kept])), (a_t_now, .inl (cI, 100, .inl f_t_now))] [(a_t, .inr (8, [.int k_t_knots, .ref a_t_now, .int k_t_readKnots, .ref a_t_text, .int k_t_length, .ref a_t_covers, .int k_t_reached, .ref a_t_order, .ref a_t_way, .ref a_t_tried, .int k_t_acts, .int k_t_next, .ref a_t_row, .ref a_t_lids, .ref a_t_shown, .int k_t_seen, .ref a_t_seenKnot, .ref a_t_seenLid, .ref a_t_seenHad, .long k_t_seed, .ref a_t_isKept, .ref a_t_kept])), (a_t_now, .inl (cI, 100, .inl f_t_now))] (some (.int R)) := by
  refine kM_of cX11_reachedBy 12 (some .int) RX11 (by decide) rfl rfl (Nat.le_of_ble_eq_true rfl) ?_
  intro p e s m below meth c A ls X hA hP hD hS hl
  have hx := X.1.1
  have hb := X.1.2.1
  have hts := X.1.2.2.2.2
  have hown := X.1.2.2.2.1
  have hK := X.2.2.2.1
  have hl : lv_has ls 12 [(0, .ref a_t), (1, .int p1), (2, .int p2), (3, .int p3), (4, .int p4)] := hl
  rw [mX11_reachedBy] at hm
  refine lv_iload_n hx hb dX11_reachedBy_0 rfl (lv_at hl 2 rfl) ?_
  have h14 : ∀ (n14 : Nat), ∀ (v14_5 : Int32) (v14_6 : Int32) (H : Heap) (locs : List Loc) (ls : Array Slot), va_P G vwCl [(a_t, .inr (8, [.int k_t_knots, .ref a_t_now, .int k_t_readKnots, .ref a_t_text, .int k_t_length, .ref a_t_covers, .int k_t_reached, .ref a_t_order, .ref a_t_way, .ref a_t_tried, .int k_t_acts, .int k_t_next, .ref a_t_row, .ref a_t_lids, .ref a_t_shown, .int k_t_seen, .ref a_t_seenKnot, .ref a_t_seenLid, .ref a_t_seenHad, .long k_t_seed, .ref a_t_isKept, .ref a_t_kept])), (a_t_now, .inl (cI, 100, .inl f_t_now))] H → va_D A [(a_t, .inr (8, [.int k_t_knots, .ref a_t_now, .int k_t_readKnots, .ref a_t_text, .int k_t_length, .ref a_t_covers, .int k_t_reached, .ref a_t_order, .ref a_t_way, .ref a_t_tried, .int k_t_acts, .int k_t_next, .ref a_t_row, .ref a_t_lids, .ref a_t_shown, .int k_t_seen, .ref a_t_seenKnot, .ref a_t_seenLid, .ref a_t_seenHad, .long k_t_seed, .ref a_t_isKept, .ref a_t_kept])), (a_t_now, .inl (cI, 100, .inl f_t_now))] → va_S A s.heap H locs → lv_has ls 12 [(0, .ref a_t), (1, .int p1), (2, .int p2), (3, .int p3), (4, .int p4), (5, .int v14_5), (6, .int v14_6)] → mX11_reachedBy_L14 f_t_now p1 p2 p3 p4 n14 v14_5 v14_6 = some R → W p l e { frames := 1, cells := 0, slots := 0, locals := 22 } s m ([.ref a_t, .int p1, .int p2, .int p3, .int p4] : List Value).toArray below meth c H locs 0 0 (kQ below G [(a_t, .inr (8, [.int k_t_knots, .ref a_t_now, .int k_t_readKnots, .ref a_t_text, .int k_t_length, .ref a_t_covers, .int k_t_reached, .ref a_t_order, .ref a_t_way, .ref a_t_tried, .int k_t_acts, .int k_t_next, .ref a_t_row, .ref a_t_lids, .ref a_t_shown, .int k_t_seen, .ref a_t_seenKnot, .ref a_t_seenLid, .ref a_t_seenHad, .long k_t_seed, .ref a_t_isKept, .ref a_t_kept])), (a_t_now, .inl (cI, 100, .inl f_t_now))] (some (.int R)) A ([.ref a_t, .int p1, .int p2, .int p3, .int p4] : List Value).toArray s) (F0 m 14 ls []) := by
    intro n14
    induction n14 with
    | zero => intro v14_5 v14_6 H locs ls hP hD hS hl hm; rw [mX11_reachedBy_L14] at hm; cases hm
    | succ n14 ih14 =>
      intro v14_5 v14_6 H locs ls hP hD hS hl hm
      rw [mX11_reachedBy_L14] at hm
      refine lv_iload hx hb dX11_reachedBy_14 (lv_at hl 6 rfl) ?_
      refine lv_bipush (v := 8) hx hb dX11_reachedBy_16 (by decide) ?_
      refine lv_icmp_ge (tgt := 140) hx hb dX11_reachedBy_18 (by decide) (fun c18 => ?_) (fun c18 => ?_)
      · rw [if_pos c18] at hm
        refine lv_iload hx hb dX11_reachedBy_140 (lv_at hl 5 rfl) ?_
        have hm := Option.some.inj hm
        subst hm
        exact k_iret (v := v14_5) X rfl dX11_reachedBy_142 hP hD hS
      · rw [if_neg c18] at hm
        refine lv_iconst (v := 0) hx hb dX11_reachedBy_21 (by decide) ?_
        refine lv_istore (lv' := [(7, .int 0), (0, .ref a_t), (1, .int p1), (2, .int p2), (3, .int p3), (4, .int p4), (5, .int v14_5), (6, .int v14_6)]) hx hb dX11_reachedBy_22 hl (by decide) rfl (fun ls hl => ?_)
        refine lv_iconst (v := 0) hx hb dX11_reachedBy_24 (by decide) ?_
        refine lv_istore (lv' := [(8, .int 0), (7, .int 0), (0, .ref a_t), (1, .int p1), (2, .int p2), (3, .int p3), (4, .int p4), (5, .int v14_5), (6, .int v14_6)]) hx hb dX11_reachedBy_25 hl (by decide) rfl (fun ls hl => ?_)
        have h27 : ∀ (n27 : Nat), ∀ (v27_5 : Int32) (v27_7 : Int32) (v27_8 : Int32) (H : Heap) (locs : List Loc) (ls : Array Slot), va_P G vwCl [(a_t, .inr (8, [.int k_t_knots, .ref a_t_now, .int k_t_readKnots, .ref a_t_text, .int k_t_length, .ref a_t_covers, .int k_t_reached, .ref a_t_order, .ref a_t_way, .ref a_t_tried, .int k_t_acts, .int k_t_next, .ref a_t_row, .ref a_t_lids, .ref a_t_shown, .int k_t_seen, .ref a_t_seenKnot, .ref a_t_seenLid, .ref a_t_seenHad, .long k_t_seed, .ref a_t_isKept, .ref a_t_kept])), (a_t_now, .inl (cI, 100, .inl f_t_now))] H → va_D A [(a_t, .inr (8, [.int k_t_knots, .ref a_t_now, .int k_t_readKnots, .ref a_t_text, .int k_t_length, .ref a_t_covers, .int k_t_reached, .ref a_t_order, .ref a_t_way, .ref a_t_tried, .int k_t_acts, .int k_t_next, .ref a_t_row, .ref a_t_lids, .ref a_t_shown, .int k_t_seen, .ref a_t_seenKnot, .ref a_t_seenLid, .ref a_t_seenHad, .long k_t_seed, .ref a_t_isKept, .ref a_t_kept])), (a_t_now, .inl (cI, 100, .inl f_t_now))] → va_S A s.heap H locs → lv_has ls 12 [(0, .ref a_t), (1, .int p1), (2, .int p2), (3, .int p3), (4, .int p4), (5, .int v27_5), (6, .int v14_6), (7, .int v27_7), (8, .int v27_8)] → mX11_reachedBy_L27 (mX11_reachedBy_L14 f_t_now p1 p2 p3 p4 n14) f_t_now p1 p2 p3 p4 v14_6 n27 v27_5 v27_7 v27_8 = some R → W p l e { frames := 1, cells := 0, slots := 0, locals := 22 } s m ([.ref a_t, .int p1, .int p2, .int p3, .int p4] : List Value).toArray below meth c H locs 0 0 (kQ below G [(a_t, .inr (8, [.int k_t_knots, .ref a_t_now, .int k_t_readKnots, .ref a_t_text, .int k_t_length, .ref a_t_covers, .int k_t_reached, .ref a_t_order, .ref a_t_way, .ref a_t_tried, .int k_t_acts, .int k_t_next, .ref a_t_row, .ref a_t_lids, .ref a_t_shown, .int k_t_seen, .ref a_t_seenKnot, .ref a_t_seenLid, .ref a_t_seenHad, .long k_t_seed, .ref a_t_isKept, .ref a_t_kept])), (a_t_now, .inl (cI, 100, .inl f_t_now))] (some (.int R)) A ([.ref a_t, .int p1, .int p2, .int p3, .int p4] : List Value).toArray s) (F0 m 27 ls []) := by
          intro n27
          induction n27 with
          | zero => intro v27_5 v27_7 v27_8 H locs ls hP hD hS hl hm; rw [mX11_reachedBy_L27] at hm; cases hm
          | succ n27 ih27 =>
            intro v27_5 v27_7 v27_8 H locs ls hP hD hS hl hm
            rw [mX11_reachedBy_L27] at hm
            refine lv_iload hx hb dX11_reachedBy_27 (lv_at hl 8 rfl) ?_
            refine lv_aload_n hx hb dX11_reachedBy_29 rfl (lv_at hl 0 rfl) ?_
            refine lv_iload_n hx hb dX11_reachedBy_30 rfl (lv_at hl 1 rfl) ?_
            obtain ⟨r31, hc31, hm⟩ := kbind hm
            refine kcV0 (st1 := [.int r31, .int v27_8]) X hA (c_X11_many l G cI cZ cE a_t a_t_now a_t_text a_t_covers a_t_order a_t_way a_t_tried a_t_row a_t_lids a_t_shown a_t_seenKnot a_t_seenLid a_t_seenHad a_t_isKept a_t_kept k_t_knots k_t_readKnots k_t_length k_t_reached k_t_acts k_t_next k_t_seen k_t_seed f_t_now p1 r31 hc31) (cwV 1 hts gX11_reachedBy_X11_many rfl rfl rfl hd_X11_many ⟨Nat.le_of_ble_eq_true rfl, Nat.le_of_ble_eq_true rfl⟩) 0 8 rfl rfl hl.1 dX11_reachedBy_31 hP hD hS [0, 1] rfl rfl rfl [.int v27_8] rfl (Nat.le_of_ble_eq_true rfl) rfl ⟨Nat.zero_le _, Nat.zero_le _⟩ (fun H locs hP hD hS => ?_)
            refine lv_icmp_ge (tgt := 134) hx hb dX11_reachedBy_34 (by decide) (fun c34 => ?_) (fun c34 => ?_)
            · rw [if_pos c34] at hm
              refine lv_iinc (v := v14_6 + 1) (lv' := [(6, .int (v14_6 + 1)), (0, .ref a_t), (1, .int p1), (2, .int p2), (3, .int p3), (4, .int p4), (5, .int v27_5), (7, .int v27_7), (8, .int v27_8)]) hx hb dX11_reachedBy_134 hl (k := 6) rfl rfl (by decide) rfl (fun ls hl => ?_)
              refine lv_goto (tgt := 14) hx hb dX11_reachedBy_137 (by decide) ?_
              exact ih14 v27_5 (v14_6 + 1) _ _ _ hP hD hS (lv_sub hl [1, 2, 3, 4, 5, 6, 0] rfl) hm
            · rw [if_neg c34] at hm
              refine lv_aload_n hx hb dX11_reachedBy_37 rfl (lv_at hl 0 rfl) ?_
              refine lv_iload_n hx hb dX11_reachedBy_38 rfl (lv_at hl 1 rfl) ?_
              refine lv_iload hx hb dX11_reachedBy_39 (lv_at hl 8 rfl) ?_
              obtain ⟨r41, hc41, hm⟩ := kbind hm
              refine kcV0 (st1 := [.int r41]) X hA (c_X11_fromOf l G cI cZ cE a_t a_t_now a_t_text a_t_covers a_t_order a_t_way a_t_tried a_t_row a_t_lids a_t_shown a_t_seenKnot a_t_seenLid a_t_seenHad a_t_isKept a_t_kept k_t_knots k_t_readKnots k_t_length k_t_reached k_t_acts k_t_next k_t_seen k_t_seed f_t_now p1 v27_8 r41 hc41) (cwV 2 hts gX11_reachedBy_X11_fromOf rfl rfl rfl hd_X11_fromOf ⟨Nat.le_of_ble_eq_true rfl, Nat.le_of_ble_eq_true rfl⟩) 0 8 rfl rfl hl.1 dX11_reachedBy_41 hP hD hS [0, 1] rfl rfl rfl [] rfl (Nat.le_of_ble_eq_true rfl) rfl ⟨Nat.zero_le _, Nat.zero_le _⟩ (fun H locs hP hD hS => ?_)
              refine lv_istore (lv' := [(9, .int r41), (0, .ref a_t), (1, .int p1), (2, .int p2), (3, .int p3), (4, .int p4), (5, .int v27_5), (6, .int v14_6), (7, .int v27_7), (8, .int v27_8)]) hx hb dX11_reachedBy_44 hl (by decide) rfl (fun ls hl => ?_)
              refine lv_aload_n hx hb dX11_reachedBy_46 rfl (lv_at hl 1 rfl) ?_
              refine lv_iload_n hx hb dX11_reachedBy_47 rfl (lv_at hl 2 rfl) ?_
              refine lv_iload hx hb dX11_reachedBy_48 (lv_at hl 9 rfl) ?_
              obtain ⟨r50, hc50, hm⟩ := kbind hm
              refine kcV0 (st1 := [.int r50]) X hA (c_X11_toOf l G cI cZ cE a_t a_t_now a_t_text a_t_covers a_t_order a_t_way a_t_tried a_t_row a_t_lids a_t_shown a_t_seenKnot a_t_seenLid a_t_seenHad a_t_isKept a_t_kept k_t_knots k_t_readKnots k_t_length k_t_reached k_t_acts k_t_next k_t_seen k_t_seed f_t_now p1 v27_8 r50 hc50) (cwV 2 hts gX11_reachedBy_X11_toOf rfl rfl rfl hd_X11_toOf ⟨Nat.le_of_ble_eq_true rfl, Nat.le_of_ble_eq_true rfl⟩) 0 8 rfl rfl hl.1 dX11_reachedBy_50 hP hD hS [0, 1] rfl rfl rfl [] rfl (Nat.le_of_ble_eq_true rfl) rfl ⟨Nat.zero_le _, Nat.zero_le _⟩ (fun H locs hP hD hS => ?_)
              refine lv_istore (lv' := [(10, .int r50), (9, .int r41), (0, .ref a_t), (1, .int p1), (2, .int p2), (3, .int p3), (4, .int p4), (5, .int v27_5), (6, .int v14_6), (7, .int v27_7), (8, .int v27_8)]) hx hb dX11_reachedBy_53 hl (by decide) rfl (fun ls hl => ?_)
              refine lv_iload hx hb dX11_reachedBy_55 (lv_at hl 1 rfl) ?_
              refine lv_iload_n hx hb dX11_reachedBy_57 rfl (lv_at hl 5 rfl) ?_
              have h76 : ∀ (s76_0 : Bool) (H : Heap) (locs : List Loc) (ls : Array Slot), va_P G vwCl [(a_t, .inr (8, [.int k_t_knots, .ref a_t_now, .int k_t_readKnots, .ref a_t_text, .int k_t_length, .ref a_t_covers, .int k_t_reached, .ref a_t_order, .ref a_t_way, .ref a_t_tried, .int k_t_acts, .int k_t_next, .ref a_t_row, .ref a_t_lids, .ref a_t_shown, .int k_t_seen, .ref a_t_seenKnot, .ref a_t_seenLid, .ref a_t_seenHad, .long k_t_seed, .ref a_t_isKept, .ref a_t_kept])), (a_t_now, .inl (cI, 100, .inl f_t_now))] H → va_D A [(a_t, .inr (8, [.int k_t_knots, .ref a_t_now, .int k_t_readKnots, .ref a_t_text, .int k_t_length, .ref a_t_covers, .int k_t_reached, .ref a_t_order, .ref a_t_way, .ref a_t_tried, .int k_t_acts, .int k_t_next, .ref a_t_row, .ref a_t_lids, .ref a_t_shown, .int k_t_seen, .ref a_t_seenKnot, .ref a_t_seenLid, .ref a_t_seenHad, .long k_t_seed, .ref a_t_isKept, .ref a_t_kept])), (a_t_now, .inl (cI, 100, .inl f_t_now))] → va_S A s.heap H locs → lv_has ls 12 [(0, .ref a_t), (1, .int p1), (2, .int p2), (3, .int p3), (4, .int p4), (5, .int v27_5), (6, .int v14_6), (7, .int v27_7), (8, .int v27_8), (9, .int r41), (10, .int r50)] → mX11_reachedBy_J76 (mX11_reachedBy_L27 (mX11_reachedBy_L14 f_t_now p1 p2 p3 p4 n14) f_t_now p1 p2 p3 p4 v14_6 n27) p2 p3 v27_5 v27_7 v27_8 r41 r50 s76_0 = some R → W p l e { frames := 1, cells := 0, slots := 0, locals := 22 } s m ([.ref a_t, .int p1, .int p2, .int p3, .int p4] : List Value).toArray below meth c H locs 0 0 (kQ below G [(a_t, .inr (8, [.int k_t_knots, .ref a_t_now, .int k_t_readKnots, .ref a_t_text, .int k_t_length, .ref a_t_covers, .int k_t_reached, .ref a_t_order, .ref a_t_way, .ref a_t_tried, .int k_t_acts, .int k_t_next, .ref a_t_row, .ref a_t_lids, .ref a_t_shown, .int k_t_seen, .ref a_t_seenKnot, .ref a_t_seenLid, .ref a_t_seenHad, .long k_t_seed, .ref a_t_isKept, .ref a_t_kept])), (a_t_now, .inl (cI, 100, .inl f_t_now))] (some (.int R)) A ([.ref a_t, .int p1, .int p2, .int p3, .int p4] : List Value).toArray s) (F0 m 76 ls [.int (bI s76_0)]) := by
                intro s76_0 H locs ls hP hD hS hl hm
                rw [mX11_reachedBy_J76] at hm
                refine lv_istore (lv' := [(11, .int (bI s76_0)), (0, .ref a_t), (1, .int p1), (2, .int p2), (3, .int p3), (4, .int p4), (5, .int v27_5), (6, .int v14_6), (7, .int v27_7), (8, .int v27_8), (9, .int r41), (10, .int r50)]) hx hb dX11_reachedBy_76 hl (by decide) rfl (fun ls hl => ?_)
                refine lv_iload hx hb dX11_reachedBy_78 (lv_at hl 8 rfl) ?_
                refine lv_iload hx hb dX11_reachedBy_80 (lv_at hl 10 rfl) ?_
                refine lv_iload_n hx hb dX11_reachedBy_82 rfl (lv_at hl 4 rfl) ?_
                have h91 : ∀ (s91_1 : Bool) (H : Heap) (locs : List Loc) (ls : Array Slot), va_P G vwCl [(a_t, .inr (8, [.int k_t_knots, .ref a_t_now, .int k_t_readKnots, .ref a_t_text, .int k_t_length, .ref a_t_covers, .int k_t_reached, .ref a_t_order, .ref a_t_way, .ref a_t_tried, .int k_t_acts, .int k_t_next, .ref a_t_row, .ref a_t_lids, .ref a_t_shown, .int k_t_seen, .ref a_t_seenKnot, .ref a_t_seenLid, .ref a_t_seenHad, .long k_t_seed, .ref a_t_isKept, .ref a_t_kept])), (a_t_now, .inl (cI, 100, .inl f_t_now))] H → va_D A [(a_t, .inr (8, [.int k_t_knots, .ref a_t_now, .int k_t_readKnots, .ref a_t_text, .int k_t_length, .ref a_t_covers, .int k_t_reached, .ref a_t_order, .ref a_t_way, .ref a_t_tried, .int k_t_acts, .int k_t_next, .ref a_t_row, .ref a_t_lids, .ref a_t_shown, .int k_t_seen, .ref a_t_seenKnot, .ref a_t_seenLid, .ref a_t_seenHad, .long k_t_seed, .ref a_t_isKept, .ref a_t_kept])), (a_t_now, .inl (cI, 100, .inl f_t_now))] → va_S A s.heap H locs → lv_has ls 12 [(0, .ref a_t), (1, .int p1), (2, .int p2), (3, .int p3), (4, .int p4), (5, .int v27_5), (6, .int v14_6), (8, .int v27_8), (9, .int r41), (10, .int r50), (11, .int (bI s76_0))] → mX11_reachedBy_J91 (mX11_reachedBy_L27 (mX11_reachedBy_L14 f_t_now p1 p2 p3 p4 n14) f_t_now p1 p2 p3 p4 v14_6 n27) p2 v27_5 v27_7 v27_8 r41 r50 s76_0 s91_1 = some R → W p l e { frames := 1, cells := 0, slots := 0, locals := 22 } s m ([.ref a_t, .int p1, .int p2, .int p3, .int p4] : List Value).toArray below meth c H locs 0 0 (kQ below G [(a_t, .inr (8, [.int k_t_knots, .ref a_t_now, .int k_t_readKnots, .ref a_t_text, .int k_t_length, .ref a_t_covers, .int k_t_reached, .ref a_t_order, .ref a_t_way, .ref a_t_tried, .int k_t_acts, .int k_t_next, .ref a_t_row, .ref a_t_lids, .ref a_t_shown, .int k_t_seen, .ref a_t_seenKnot, .ref a_t_seenLid, .ref a_t_seenHad, .long k_t_seed, .ref a_t_isKept, .ref a_t_kept])), (a_t_now, .inl (cI, 100, .inl f_t_now))] (some (.int R)) A ([.ref a_t, .int p1, .int p2, .int p3, .int p4] : List Value).toArray s) (F0 m 91 ls [.int (bI s91_1), .int v27_7]) := by
                  intro s91_1 H locs ls hP hD hS hl hm
                  rw [mX11_reachedBy_J91] at hm
                  refine lv_iadd hx hb dX11_reachedBy_91 ?_
                  refine lv_istore (lv' := [(7, .int (v27_7 + (bI s91_1))), (0, .ref a_t), (1, .int p1), (2, .int p2), (3, .int p3), (4, .int p4), (5, .int v27_5), (6, .int v14_6), (8, .int v27_8), (9, .int r41), (10, .int r50), (11, .int (bI s76_0))]) hx hb dX11_reachedBy_92 hl (by decide) rfl (fun ls hl => ?_)
                  refine lv_iload hx hb dX11_reachedBy_94 (lv_at hl 6 rfl) ?_
                  refine lv_iload hx hb dX11_reachedBy_96 (lv_at hl 11 rfl) ?_
                  refine lv_if_eq (tgt := 124) hx hb dX11_reachedBy_98 (by decide) (fun c98 => ?_) (fun c98 => ?_)
                  · have c98 := kb0 c98
                    rw [if_neg c98] at hm
                    refine lv_iconst (v := 0) hx hb dX11_reachedBy_124 (by decide) ?_
                    refine lv_ior hx hb dX11_reachedBy_125 ?_
                    refine lv_istore (lv' := [(5, .int (v27_5 ||| 0)), (7, .int (v27_7 + (bI s91_1))), (0, .ref a_t), (1, .int p1), (2, .int p2), (3, .int p3), (4, .int p4), (6, .int v14_6), (8, .int v27_8), (9, .int r41), (10, .int r50), (11, .int (bI s76_0))]) hx hb dX11_reachedBy_126 hl (by decide) rfl (fun ls hl => ?_)
                    refine lv_iinc (v := v27_8 + 1) (lv' := [(8, .int (v27_8 + 1)), (5, .int (v27_5 ||| 0)), (7, .int (v27_7 + (bI s91_1))), (0, .ref a_t), (1, .int p1), (2, .int p2), (3, .int p3), (4, .int p4), (6, .int v14_6), (9, .int r41), (10, .int r50), (11, .int (bI s76_0))]) hx hb dX11_reachedBy_128 hl (k := 8) rfl rfl (by decide) rfl (fun ls hl => ?_)
                    refine lv_goto (tgt := 27) hx hb dX11_reachedBy_131 (by decide) ?_
                    exact ih27 (v27_5 ||| 0) (v27_7 + (bI s91_1)) (v27_8 + 1) _ _ _ hP hD hS (lv_sub hl [3, 4, 5, 6, 7, 1, 8, 2, 0] rfl) hm
                  · have c98 := kb1 c98
                    rw [if_pos c98] at hm
                    refine lv_iload hx hb dX11_reachedBy_101 (lv_at hl 6 rfl) ?_
                    refine lv_iload hx hb dX11_reachedBy_103 (lv_at hl 9 rfl) ?_
                    refine kcS0 (st1 := [.int (bI (mX11_has v27_5 r41)), .int v27_5]) X hA (c_X11_has l G cI cZ cE v27_5 r41 _ rfl) (va_cwS 2 hts gX11_reachedBy_X11_has rfl rfl rfl hd_X11_has ⟨Nat.le_of_ble_eq_true rfl, Nat.le_of_ble_eq_true rfl⟩) hl.1 dX11_reachedBy_105 hP hD hS [] rfl rfl rfl [.int v27_5] rfl (Nat.le_of_ble_eq_true rfl) rfl ⟨Nat.zero_le _, Nat.zero_le _⟩ (fun H locs hP hD hS => ?_)
                    refine lv_if_eq (tgt := 124) hx hb dX11_reachedBy_108 (by decide) (fun c108 => ?_) (fun c108 => ?_)
                    · have c108 := kb0 c108
                      rw [if_neg c108] at hm
                      refine lv_iconst (v := 0) hx hb dX11_reachedBy_124 (by decide) ?_
                      refine lv_ior hx hb dX11_reachedBy_125 ?_
                      refine lv_istore (lv' := [(5, .int (v27_5 ||| 0)), (7, .int (v27_7 + (bI s91_1))), (0, .ref a_t), (1, .int p1), (2, .int p2), (3, .int p3), (4, .int p4), (6, .int v14_6), (8, .int v27_8), (9, .int r41), (10, .int r50), (11, .int (bI s76_0))]) hx hb dX11_reachedBy_126 hl (by decide) rfl (fun ls hl => ?_)
                      refine lv_iinc (v := v27_8 + 1) (lv' := [(8, .int (v27_8 + 1)), (5, .int (v27_5 ||| 0)), (7, .int (v27_7 + (bI s91_1))), (0, .ref a_t), (1, .int p1), (2, .int p2), (3, .int p3), (4, .int p4), (6, .int v14_6), (9, .int r41), (10, .int r50), (11, .int (bI s76_0))]) hx hb dX11_reachedBy_128 hl (k := 8) rfl rfl (by decide) rfl (fun ls hl => ?_)
                      refine lv_goto (tgt := 27) hx hb dX11_reachedBy_131 (by decide) ?_
                      exact ih27 (v27_5 ||| 0) (v27_7 + (bI s91_1)) (v27_8 + 1) _ _ _ hP hD hS (lv_sub hl [3, 4, 5, 6, 7, 1, 8, 2, 0] rfl) hm
                    · have c108 := kb1 c108
                      rw [if_pos c108] at hm
                      refine lv_iload hx hb dX11_reachedBy_111 (lv_at hl 10 rfl) ?_
                      refine lv_iload_n hx hb dX11_reachedBy_113 rfl (lv_at hl 3 rfl) ?_
                      refine lv_icmp_eq (tgt := 124) hx hb dX11_reachedBy_114 (by decide) (fun c114 => ?_) (fun c114 => ?_)
                      · rw [if_pos c114] at hm
                        refine lv_iconst (v := 0) hx hb dX11_reachedBy_124 (by decide) ?_
                        refine lv_ior hx hb dX11_reachedBy_125 ?_
                        refine lv_istore (lv' := [(5, .int (v27_5 ||| 0)), (7, .int (v27_7 + (bI s91_1))), (0, .ref a_t), (1, .int p1), (2, .int p2), (3, .int p3), (4, .int p4), (6, .int v14_6), (8, .int v27_8), (9, .int r41), (10, .int r50), (11, .int (bI s76_0))]) hx hb dX11_reachedBy_126 hl (by decide) rfl (fun ls hl => ?_)
                        refine lv_iinc (v := v27_8 + 1) (lv' := [(8, .int (v27_8 + 1)), (5, .int (v27_5 ||| 0)), (7, .int (v27_7 + (bI s91_1))), (0, .ref a_t), (1, .int p1), (2, .int p2), (3, .int p3), (4, .int p4), (6, .int v14_6), (9, .int r41), (10, .int r50), (11, .int (bI s76_0))]) hx hb dX11_reachedBy_128 hl (k := 8) rfl rfl (by decide) rfl (fun ls hl => ?_)
                        refine lv_goto (tgt := 27) hx hb dX11_reachedBy_131 (by decide) ?_
                        exact ih27 (v27_5 ||| 0) (v27_7 + (bI s91_1)) (v27_8 + 1) _ _ _ hP hD hS (lv_sub hl [3, 4, 5, 6, 7, 1, 8, 2, 0] rfl) hm
                      · rw [if_neg c114] at hm
                        refine lv_iconst (v := 1) hx hb dX11_reachedBy_117 (by decide) ?_
                        refine lv_iload hx hb dX11_reachedBy_118 (lv_at hl 10 rfl) ?_
                        refine lv_ishl hx hb dX11_reachedBy_120 ?_
                        refine lv_goto (tgt := 125) hx hb dX11_reachedBy_121 (by decide) ?_
                        refine lv_ior hx hb dX11_reachedBy_125 ?_
                        refine lv_istore (lv' := [(5, .int (v27_5 ||| (1 <<< (r50 &&& 31)))), (7, .int (v27_7 + (bI s91_1))), (0, .ref a_t), (1, .int p1), (2, .int p2), (3, .int p3), (4, .int p4), (6, .int v14_6), (8, .int v27_8), (9, .int r41), (10, .int r50), (11, .int (bI s76_0))]) hx hb dX11_reachedBy_126 hl (by decide) rfl (fun ls hl => ?_)
                        refine lv_iinc (v := v27_8 + 1) (lv' := [(8, .int (v27_8 + 1)), (5, .int (v27_5 ||| (1 <<< (r50 &&& 31)))), (7, .int (v27_7 + (bI s91_1))), (0, .ref a_t), (1, .int p1), (2, .int p2), (3, .int p3), (4, .int p4), (6, .int v14_6), (9, .int r41), (10, .int r50), (11, .int (bI s76_0))]) hx hb dX11_reachedBy_128 hl (k := 8) rfl rfl (by decide) rfl (fun ls hl => ?_)
                        refine lv_goto (tgt := 27) hx hb dX11_reachedBy_131 (by decide) ?_
                        exact ih27 (v27_5 ||| (1 <<< (r50 &&& 31))) (v27_7 + (bI s91_1)) (v27_8 + 1) _ _ _ hP hD hS (lv_sub hl [3, 4, 5, 6, 7, 1, 8, 2, 0] rfl) hm
                refine lv_icmp_ne (tgt := 90) hx hb dX11_reachedBy_83 (by decide) (fun c83 => ?_) (fun c83 => ?_)
                · rw [if_neg c83] at hm
                  refine lv_iconst (v := 0) hx hb dX11_reachedBy_90 (by decide) ?_
                  exact h91 false _ _ _ hP hD hS (lv_sub hl [1, 2, 3, 4, 5, 6, 7, 9, 10, 11, 0] rfl) hm
                · rw [if_pos c83] at hm
                  refine lv_iconst (v := 1) hx hb dX11_reachedBy_86 (by decide) ?_
                  refine lv_goto (tgt := 91) hx hb dX11_reachedBy_87 (by decide) ?_
                  exact h91 true _ _ _ hP hD hS (lv_sub hl [1, 2, 3, 4, 5, 6, 7, 9, 10, 11, 0] rfl) hm
              refine lv_icmp_ne (tgt := 71) hx hb dX11_reachedBy_58 (by decide) (fun c58 => ?_) (fun c58 => ?_)
              · rw [if_neg c58] at hm
                refine lv_iconst (v := 1) hx hb dX11_reachedBy_71 (by decide) ?_
                refine lv_goto (tgt := 76) hx hb dX11_reachedBy_72 (by decide) ?_
                exact h76 true _ _ _ hP hD hS (lv_sub hl [2, 3, 4, 5, 6, 7, 8, 9, 10, 1, 0] rfl) hm
              · rw [if_pos c58] at hm
                refine lv_iload hx hb dX11_reachedBy_61 (lv_at hl 6 rfl) ?_
                refine lv_iload hx hb dX11_reachedBy_63 (lv_at hl 9 rfl) ?_
                refine kcS0 (st1 := [.int (bI (mX11_has p4 v27_7))]) X hA (c_X11_has l G cI cZ cE p4 v27_7 _ rfl) (va_cwS 2 hts gX11_reachedBy_X11_has rfl rfl rfl hd_X11_has ⟨Nat.le_of_ble_eq_true rfl, Nat.le_of_ble_eq_true rfl⟩) hl.1 dX11_reachedBy_65 hP hD hS [] rfl rfl rfl [] rfl (Nat.le_of_ble_eq_true rfl) rfl ⟨Nat.zero_le _, Nat.zero_le _⟩ (fun H locs hP hD hS => ?_)
                refine lv_if_eq (tgt := 75) hx hb dX11_reachedBy_68 (by decide) (fun c68 => ?_) (fun c68 => ?_)
                · have c68 := kb0 c68
                  rw [if_neg c68] at hm
                  refine lv_iconst (v := 0) hx hb dX11_reachedBy_75 (by decide) ?_
                  exact h76 false _ _ _ hP hD hS (lv_sub hl [2, 3, 4, 5, 6, 7, 8, 9, 10, 1, 0] rfl) hm
                · have c68 := kb1 c68
                  rw [if_pos c68] at hm
                  refine lv_iconst (v := 1) hx hb dX11_reachedBy_71 (by decide) ?_
                  refine lv_goto (tgt := 76) hx hb dX11_reachedBy_72 (by decide) ?_
                  exact h76 true _ _ _ hP hD hS (lv_sub hl [2, 3, 4, 5, 6, 7, 8, 9, 10, 1, 0] rfl) hm
        exact h27 kFU v14_5 0 0 _ _ _ hP hD hS (lv_sub hl [2, 3, 4, 5, 6, 7, 8, 1, 0] rfl) hm
  refine lv_if_ne (tgt := 8) hx hb dX11_reachedBy_1 (by decide) (fun c1 => ?_) (fun c1 => ?_)
  · rw [if_neg c1] at hm
    refine lv_iconst (v := 1) hx hb dX11_reachedBy_8 (by decide) ?_
    refine lv_istore (lv' := [(5, .int 1), (0, .ref a_t), (1, .int p1), (2, .int p2), (3, .int p3), (4, .int p4)]) hx hb dX11_reachedBy_9 hl (by decide) rfl (fun ls hl => ?_)
    refine lv_iconst (v := 0) hx hb dX11_reachedBy_11 (by decide) ?_
    refine lv_istore (lv' := [(6, .int 0), (5, .int 1), (0, .ref a_t), (1, .int p1), (2, .int p2), (3, .int p3), (4, .int p4)]) hx hb dX11_reachedBy_12 hl (by decide) rfl (fun ls hl => ?_)
    exact h14 kFU 1 0 _ _ _ hP hD hS (lv_sub hl [2, 3, 4, 5, 6, 1, 0] rfl) hm
  · rw [if_pos c1] at hm
    refine lv_iconst (v := 0) hx hb dX11_reachedBy_4 (by decide) ?_
    refine lv_goto (tgt := 9) hx hb dX11_reachedBy_5 (by decide) ?_
    refine lv_istore (lv' := [(5, .int 0), (0, .ref a_t), (1, .int p1), (2, .int p2), (3, .int p3), (4, .int p4)]) hx hb dX11_reachedBy_9 hl (by decide) rfl (fun ls hl => ?_)
    refine lv_iconst (v := 0) hx hb dX11_reachedBy_11 (by decide) ?_
    refine lv_istore (lv' := [(6, .int 0), (5, .int 0), (0, .ref a_t), (1, .int p1), (2, .int p2), (3, .int p3), (4, .int p4)]) hx hb dX11_reachedBy_12 hl (by decide) rfl (fun ls hl => ?_)
    exact h14 kFU 0 0 _ _ _ hP hD hS (lv_sub hl [2, 3, 4, 5, 6, 1, 0] rfl) hm
theorem hd_X11_reachedBy : yX11_reachedBy.cls = RX11 ∧ yX11_reachedBy.cls ≠ "java/lang/invoke/MethodHandle" ∧ yX11_reachedBy.cls ≠ "java/lang/invoke/VarHandle" ∧ (parseMethodDescriptor yX11_reachedBy.desc).map (fun d => d.parameters.length) = some 4 := by decide +kernel
/-! CoverOrderModel findCovers -/
set_option maxRecDepth 100000 in
set_option maxHeartbeats 4000000 in
theorem c_X11_findCovers (l : Launch) (G : va_G) (cI cZ cE : ClassId) (a_t a_t_now a_t_text a_t_covers a_t_order a_t_way a_t_tried a_t_row a_t_lids a_t_shown a_t_seenKnot a_t_seenLid a_t_seenHad a_t_isKept a_t_kept : Nat) (k_t_knots : Int32) (k_t_readKnots : Int32) (k_t_length : Int32) (k_t_reached : Int32) (k_t_acts : Int32) (k_t_next : Int32) (k_t_seen : Int32) (k_t_seed : Int64) (f_t_now : Nat → Int32) (f_t_covers : Nat → Int32) (p1 : Int32) (R : Int32 × (Nat → Int32)) (hm : mX11_findCovers k_t_reached f_t_now f_t_covers p1 = some R) : kM l yX11_findCovers wsX11_findCovers { frames := 2, cells := 0, slots := 0, locals := 53 } G cI cZ cE [.ref a_t, .int p1] [(a_t, .inr (8, [.int k_t_knots, .ref a_t_now, .int k_t_readKnots, .ref a_t_text, .int k_t_length, .ref a_t_covers, .int k_t_reached, .ref a_t_order, .ref a_t_way, .ref a_t_tried, .int k_t_acts, .int k_t_next, .ref a_t_row, .ref a_t_lids, .ref a_t_shown, .int k_t_seen, .ref a_t_seenKnot, .ref a_t_seenLid, .ref a_t_seenHad, .long k_t_seed, .ref a_t_isKept, .ref a_t_kept])), (a_t_now, .inl (cI, 100, .inl f_t_now)), (a_t_covers, .inl (cI, 8, .inl f_t_covers))] [(a_t, .inr (8, [.int k_t_knots, .ref a_t_now, .int k_t_readKnots, .ref a_t_text, .int k_t_length, .ref a_t_covers, .int R.1, .ref a_t_order, .ref a_t_way, .ref a_t_tried, .int k_t_acts, .int k_t_next, .ref a_t_row, .ref a_t_lids, .ref a_t_shown, .int k_t_seen, .ref a_t_seenKnot, .ref a_t_seenLid, .ref a_t_seenHad, .long k_t_seed, .ref a_t_isKept, .ref a_t_kept])), (a_t_now, .inl (cI, 100, .inl f_t_now)), (a_t_covers, .inl (cI, 8, .inl R.2))] none := by
  refine kM_of cX11_findCovers 5 none RX11 (by decide) rfl rfl (Nat.le_of_ble_eq_true rfl) ?_
  intro p e s m below meth c A ls X hA hP hD hS hl
  have hx := X.1.1
  have hb := X.1.2.1
  have hts := X.1.2.2.2.2
  have hown := X.1.2.2.2.1
  have hK := X.2.2.2.1
  have l_110 : (.fieldLink RX11 110 "CoverOrderModel" "reached" "I" : Cond).before _ s = true := hts _ (List.mem_of_getElem? (i := 1) (by decide +kernel))
  have i_X11 : ∀ w ∈ u_ws RX11 TX11 22, w ∈ wsX11_findCovers := k_in _ [24, 25, 26, 27, 28, 29, 30, 31, 32, 33, 34, 35, 36, 37, 38, 39, 40, 41, 42, 43, 44, 45] (by decide +kernel)
  have l_20 : (.fieldLink RX11 20 "CoverOrderModel" "covers" "[I" : Cond).before _ s = true := hts _ (List.mem_of_getElem? (i := 2) (by decide +kernel))
  have hl : lv_has ls 5 [(0, .ref a_t), (1, .int p1)] := hl
  rw [mX11_findCovers] at hm
  refine lv_aload_n hx hb dX11_findCovers_0 rfl (lv_at hl 0 rfl) ?_
  refine lv_aload_n hx hb dX11_findCovers_1 rfl (lv_at hl 0 rfl) ?_
  refine lv_iload_n hx hb dX11_findCovers_2 rfl (lv_at hl 1 rfl) ?_
  refine lv_bipush (v := (-9)) hx hb dX11_findCovers_3 (by decide) ?_
  refine lv_bipush (v := (-9)) hx hb dX11_findCovers_5 (by decide) ?_
  refine lv_iconst (v := 0) hx hb dX11_findCovers_7 (by decide) ?_
  obtain ⟨r8, hc8, hm⟩ := kbind hm
  refine kcV0 (st1 := [.int r8, .ref a_t]) X hA (c_X11_reachedBy l G cI cZ cE a_t a_t_now a_t_text a_t_covers a_t_order a_t_way a_t_tried a_t_row a_t_lids a_t_shown a_t_seenKnot a_t_seenLid a_t_seenHad a_t_isKept a_t_kept k_t_knots k_t_readKnots k_t_length k_t_reached k_t_acts k_t_next k_t_seen k_t_seed f_t_now p1 (-9) (-9) 0 r8 hc8) (cwV 4 hts gX11_findCovers_X11_reachedBy rfl rfl rfl hd_X11_reachedBy ⟨Nat.le_of_ble_eq_true rfl, Nat.le_of_ble_eq_true rfl⟩) 0 8 rfl rfl hl.1 dX11_findCovers_8 hP hD hS [0, 1] rfl rfl rfl [.ref a_t] rfl (Nat.le_of_ble_eq_true rfl) rfl ⟨Nat.zero_le _, Nat.zero_le _⟩ (fun H locs hP hD hS => ?_)
  refine va_put (D := G) (ci := 8) (v := .int r8) (ty := .int) (C := RX11) (T := TX11) (N := 22) hx hb hts i_X11 tyX11 tyX11_ok nmX11 hown hK hP hD hS 0 rfl rfl 6 (by decide) l_110 (fun _ h9 => h9) rfl (by decide +kernel) rfl rfl (Nat.le_of_ble_eq_true rfl) dX11_findCovers_11 (fun H locs hP hD hS => ?_)
  have hP : va_P G vwCl [(a_t, .inr (8, [.int k_t_knots, .ref a_t_now, .int k_t_readKnots, .ref a_t_text, .int k_t_length, .ref a_t_covers, .int r8, .ref a_t_order, .ref a_t_way, .ref a_t_tried, .int k_t_acts, .int k_t_next, .ref a_t_row, .ref a_t_lids, .ref a_t_shown, .int k_t_seen, .ref a_t_seenKnot, .ref a_t_seenLid, .ref a_t_seenHad, .long k_t_seed, .ref a_t_isKept, .ref a_t_kept])), (a_t_now, .inl (cI, 100, .inl f_t_now)), (a_t_covers, .inl (cI, 8, .inl f_t_covers))] H := hP
  have hD : va_D A [(a_t, .inr (8, [.int k_t_knots, .ref a_t_now, .int k_t_readKnots, .ref a_t_text, .int k_t_length, .ref a_t_covers, .int r8, .ref a_t_order, .ref a_t_way, .ref a_t_tried, .int k_t_acts, .int k_t_next, .ref a_t_row, .ref a_t_lids, .ref a_t_shown, .int k_t_seen, .ref a_t_seenKnot, .ref a_t_seenLid, .ref a_t_seenHad, .long k_t_seed, .ref a_t_isKept, .ref a_t_kept])), (a_t_now, .inl (cI, 100, .inl f_t_now)), (a_t_covers, .inl (cI, 8, .inl f_t_covers))] := hD
  refine lv_iconst (v := 0) hx hb dX11_findCovers_14 (by decide) ?_
  refine lv_istore_n (lv' := [(2, .int 0), (0, .ref a_t), (1, .int p1)]) hx hb dX11_findCovers_15 rfl hl (by decide) rfl (fun ls hl => ?_)
  have h16 : ∀ (n16 : Nat), ∀ (v16_2 : Int32) (w16_f_t_covers : Nat → Int32) (H : Heap) (locs : List Loc) (ls : Array Slot), va_P G vwCl [(a_t, .inr (8, [.int k_t_knots, .ref a_t_now, .int k_t_readKnots, .ref a_t_text, .int k_t_length, .ref a_t_covers, .int r8, .ref a_t_order, .ref a_t_way, .ref a_t_tried, .int k_t_acts, .int k_t_next, .ref a_t_row, .ref a_t_lids, .ref a_t_shown, .int k_t_seen, .ref a_t_seenKnot, .ref a_t_seenLid, .ref a_t_seenHad, .long k_t_seed, .ref a_t_isKept, .ref a_t_kept])), (a_t_now, .inl (cI, 100, .inl f_t_now)), (a_t_covers, .inl (cI, 8, .inl w16_f_t_covers))] H → va_D A [(a_t, .inr (8, [.int k_t_knots, .ref a_t_now, .int k_t_readKnots, .ref a_t_text, .int k_t_length, .ref a_t_covers, .int r8, .ref a_t_order, .ref a_t_way, .ref a_t_tried, .int k_t_acts, .int k_t_next, .ref a_t_row, .ref a_t_lids, .ref a_t_shown, .int k_t_seen, .ref a_t_seenKnot, .ref a_t_seenLid, .ref a_t_seenHad, .long k_t_seed, .ref a_t_isKept, .ref a_t_kept])), (a_t_now, .inl (cI, 100, .inl f_t_now)), (a_t_covers, .inl (cI, 8, .inl w16_f_t_covers))] → va_S A s.heap H locs → lv_has ls 5 [(0, .ref a_t), (1, .int p1), (2, .int v16_2)] → mX11_findCovers_L16 f_t_now p1 r8 n16 v16_2 w16_f_t_covers = some R → W p l e { frames := 2, cells := 0, slots := 0, locals := 53 } s m ([.ref a_t, .int p1] : List Value).toArray below meth c H locs 0 0 (kQ below G [(a_t, .inr (8, [.int k_t_knots, .ref a_t_now, .int k_t_readKnots, .ref a_t_text, .int k_t_length, .ref a_t_covers, .int R.1, .ref a_t_order, .ref a_t_way, .ref a_t_tried, .int k_t_acts, .int k_t_next, .ref a_t_row, .ref a_t_lids, .ref a_t_shown, .int k_t_seen, .ref a_t_seenKnot, .ref a_t_seenLid, .ref a_t_seenHad, .long k_t_seed, .ref a_t_isKept, .ref a_t_kept])), (a_t_now, .inl (cI, 100, .inl f_t_now)), (a_t_covers, .inl (cI, 8, .inl R.2))] none A ([.ref a_t, .int p1] : List Value).toArray s) (F0 m 16 ls []) := by
    intro n16
    induction n16 with
    | zero => intro v16_2 w16_f_t_covers H locs ls hP hD hS hl hm; rw [mX11_findCovers_L16] at hm; cases hm
    | succ n16 ih16 =>
      intro v16_2 w16_f_t_covers H locs ls hP hD hS hl hm
      rw [mX11_findCovers_L16] at hm
      refine lv_iload_n hx hb dX11_findCovers_16 rfl (lv_at hl 2 rfl) ?_
      refine lv_bipush (v := 8) hx hb dX11_findCovers_17 (by decide) ?_
      refine lv_icmp_ge (tgt := 35) hx hb dX11_findCovers_19 (by decide) (fun c19 => ?_) (fun c19 => ?_)
      · rw [if_pos c19] at hm
        refine lv_iconst (v := 0) hx hb dX11_findCovers_35 (by decide) ?_
        refine lv_istore_n (lv' := [(2, .int 0), (0, .ref a_t), (1, .int p1)]) hx hb dX11_findCovers_36 rfl hl (by decide) rfl (fun ls hl => ?_)
        have h37 : ∀ (n37 : Nat), ∀ (v37_2 : Int32) (w37_f_t_covers : Nat → Int32) (H : Heap) (locs : List Loc) (ls : Array Slot), va_P G vwCl [(a_t, .inr (8, [.int k_t_knots, .ref a_t_now, .int k_t_readKnots, .ref a_t_text, .int k_t_length, .ref a_t_covers, .int r8, .ref a_t_order, .ref a_t_way, .ref a_t_tried, .int k_t_acts, .int k_t_next, .ref a_t_row, .ref a_t_lids, .ref a_t_shown, .int k_t_seen, .ref a_t_seenKnot, .ref a_t_seenLid, .ref a_t_seenHad, .long k_t_seed, .ref a_t_isKept, .ref a_t_kept])), (a_t_now, .inl (cI, 100, .inl f_t_now)), (a_t_covers, .inl (cI, 8, .inl w37_f_t_covers))] H → va_D A [(a_t, .inr (8, [.int k_t_knots, .ref a_t_now, .int k_t_readKnots, .ref a_t_text, .int k_t_length, .ref a_t_covers, .int r8, .ref a_t_order, .ref a_t_way, .ref a_t_tried, .int k_t_acts, .int k_t_next, .ref a_t_row, .ref a_t_lids, .ref a_t_shown, .int k_t_seen, .ref a_t_seenKnot, .ref a_t_seenLid, .ref a_t_seenHad, .long k_t_seed, .ref a_t_isKept, .ref a_t_kept])), (a_t_now, .inl (cI, 100, .inl f_t_now)), (a_t_covers, .inl (cI, 8, .inl w37_f_t_covers))] → va_S A s.heap H locs → lv_has ls 5 [(0, .ref a_t), (1, .int p1), (2, .int v37_2)] → mX11_findCovers_L37 f_t_now p1 r8 n37 v37_2 w37_f_t_covers = some R → W p l e { frames := 2, cells := 0, slots := 0, locals := 53 } s m ([.ref a_t, .int p1] : List Value).toArray below meth c H locs 0 0 (kQ below G [(a_t, .inr (8, [.int k_t_knots, .ref a_t_now, .int k_t_readKnots, .ref a_t_text, .int k_t_length, .ref a_t_covers, .int R.1, .ref a_t_order, .ref a_t_way, .ref a_t_tried, .int k_t_acts, .int k_t_next, .ref a_t_row, .ref a_t_lids, .ref a_t_shown, .int k_t_seen, .ref a_t_seenKnot, .ref a_t_seenLid, .ref a_t_seenHad, .long k_t_seed, .ref a_t_isKept, .ref a_t_kept])), (a_t_now, .inl (cI, 100, .inl f_t_now)), (a_t_covers, .inl (cI, 8, .inl R.2))] none A ([.ref a_t, .int p1] : List Value).toArray s) (F0 m 37 ls []) := by
          intro n37
          induction n37 with
          | zero => intro v37_2 w37_f_t_covers H locs ls hP hD hS hl hm; rw [mX11_findCovers_L37] at hm; cases hm
          | succ n37 ih37 =>
            intro v37_2 w37_f_t_covers H locs ls hP hD hS hl hm
            rw [mX11_findCovers_L37] at hm
            refine lv_iload_n hx hb dX11_findCovers_37 rfl (lv_at hl 2 rfl) ?_
            refine lv_bipush (v := 8) hx hb dX11_findCovers_38 (by decide) ?_
            refine lv_icmp_ge (tgt := 131) hx hb dX11_findCovers_40 (by decide) (fun c40 => ?_) (fun c40 => ?_)
            · rw [if_pos c40] at hm
              have hm := Option.some.inj hm
              subst hm
              exact k_vret X rfl dX11_findCovers_131 hP hD hS
            · rw [if_neg c40] at hm
              refine lv_aload_n hx hb dX11_findCovers_43 rfl (lv_at hl 0 rfl) ?_
              refine va_get (D := G) (ci := 8) (v := .int r8) (C := RX11) (T := TX11) (N := 22) hx hb hts i_X11 hown hK hP 0 rfl rfl 6 (by decide) l_110 (fun _ h9 => h9) rfl dX11_findCovers_44 ?_
              refine lv_iload_n hx hb dX11_findCovers_47 rfl (lv_at hl 2 rfl) ?_
              refine kcS0 (st1 := [.int (bI (mX11_has r8 v37_2))]) X hA (c_X11_has l G cI cZ cE r8 v37_2 _ rfl) (va_cwS 2 hts gX11_findCovers_X11_has rfl rfl rfl hd_X11_has ⟨Nat.le_of_ble_eq_true rfl, Nat.le_of_ble_eq_true rfl⟩) hl.1 dX11_findCovers_48 hP hD hS [] rfl rfl rfl [] rfl (Nat.le_of_ble_eq_true rfl) rfl ⟨Nat.zero_le _, Nat.zero_le _⟩ (fun H locs hP hD hS => ?_)
              have h74 : ∀ (n74 : Nat), ∀ (v74_3 : Int32) (v74_4 : Int32) (w74_f_t_covers : Nat → Int32) (H : Heap) (locs : List Loc) (ls : Array Slot), va_P G vwCl [(a_t, .inr (8, [.int k_t_knots, .ref a_t_now, .int k_t_readKnots, .ref a_t_text, .int k_t_length, .ref a_t_covers, .int r8, .ref a_t_order, .ref a_t_way, .ref a_t_tried, .int k_t_acts, .int k_t_next, .ref a_t_row, .ref a_t_lids, .ref a_t_shown, .int k_t_seen, .ref a_t_seenKnot, .ref a_t_seenLid, .ref a_t_seenHad, .long k_t_seed, .ref a_t_isKept, .ref a_t_kept])), (a_t_now, .inl (cI, 100, .inl f_t_now)), (a_t_covers, .inl (cI, 8, .inl w74_f_t_covers))] H → va_D A [(a_t, .inr (8, [.int k_t_knots, .ref a_t_now, .int k_t_readKnots, .ref a_t_text, .int k_t_length, .ref a_t_covers, .int r8, .ref a_t_order, .ref a_t_way, .ref a_t_tried, .int k_t_acts, .int k_t_next, .ref a_t_row, .ref a_t_lids, .ref a_t_shown, .int k_t_seen, .ref a_t_seenKnot, .ref a_t_seenLid, .ref a_t_seenHad, .long k_t_seed, .ref a_t_isKept, .ref a_t_kept])), (a_t_now, .inl (cI, 100, .inl f_t_now)), (a_t_covers, .inl (cI, 8, .inl w74_f_t_covers))] → va_S A s.heap H locs → lv_has ls 5 [(0, .ref a_t), (1, .int p1), (2, .int v37_2), (3, .int v74_3), (4, .int v74_4)] → mX11_findCovers_L74 (mX11_findCovers_L37 f_t_now p1 r8 n37) r8 v37_2 n74 v74_3 v74_4 w74_f_t_covers = some R → W p l e { frames := 2, cells := 0, slots := 0, locals := 53 } s m ([.ref a_t, .int p1] : List Value).toArray below meth c H locs 0 0 (kQ below G [(a_t, .inr (8, [.int k_t_knots, .ref a_t_now, .int k_t_readKnots, .ref a_t_text, .int k_t_length, .ref a_t_covers, .int R.1, .ref a_t_order, .ref a_t_way, .ref a_t_tried, .int k_t_acts, .int k_t_next, .ref a_t_row, .ref a_t_lids, .ref a_t_shown, .int k_t_seen, .ref a_t_seenKnot, .ref a_t_seenLid, .ref a_t_seenHad, .long k_t_seed, .ref a_t_isKept, .ref a_t_kept])), (a_t_now, .inl (cI, 100, .inl f_t_now)), (a_t_covers, .inl (cI, 8, .inl R.2))] none A ([.ref a_t, .int p1] : List Value).toArray s) (F0 m 74 ls []) := by
                intro n74
                induction n74 with
                | zero => intro v74_3 v74_4 w74_f_t_covers H locs ls hP hD hS hl hm; rw [mX11_findCovers_L74] at hm; cases hm
                | succ n74 ih74 =>
                  intro v74_3 v74_4 w74_f_t_covers H locs ls hP hD hS hl hm
                  rw [mX11_findCovers_L74] at hm
                  refine lv_iload hx hb dX11_findCovers_74 (lv_at hl 4 rfl) ?_
                  refine lv_bipush (v := 8) hx hb dX11_findCovers_76 (by decide) ?_
                  refine lv_icmp_ge (tgt := 125) hx hb dX11_findCovers_78 (by decide) (fun c78 => ?_) (fun c78 => ?_)
                  · rw [if_pos c78] at hm
                    refine lv_iinc (v := v37_2 + 1) (lv' := [(2, .int (v37_2 + 1)), (0, .ref a_t), (1, .int p1), (3, .int v74_3), (4, .int v74_4)]) hx hb dX11_findCovers_125 hl (k := 2) rfl rfl (by decide) rfl (fun ls hl => ?_)
                    refine lv_goto (tgt := 37) hx hb dX11_findCovers_128 (by decide) ?_
                    exact ih37 (v37_2 + 1) w74_f_t_covers _ _ _ hP hD hS (lv_sub hl [1, 2, 0] rfl) hm
                  · rw [if_neg c78] at hm
                    refine lv_aload_n hx hb dX11_findCovers_81 rfl (lv_at hl 0 rfl) ?_
                    refine va_get (D := G) (ci := 8) (v := .ref a_t_covers) (C := RX11) (T := TX11) (N := 22) hx hb hts i_X11 hown hK hP 0 rfl rfl 5 (by decide) l_20 (fun _ h9 => h9) rfl dX11_findCovers_82 ?_
                    refine lv_iload hx hb dX11_findCovers_85 (lv_at hl 4 rfl) ?_
                    refine lv_dup2_11 hx hb dX11_findCovers_87 rfl rfl ?_
                    obtain ⟨g88, hm⟩ := gd_some hm
                    refine va_iald hx hb hK hP 2 0 rfl rfl (kin_ok g88) dX11_findCovers_88 ?_
                    refine lv_aload_n hx hb dX11_findCovers_89 rfl (lv_at hl 0 rfl) ?_
                    refine va_get (D := G) (ci := 8) (v := .int r8) (C := RX11) (T := TX11) (N := 22) hx hb hts i_X11 hown hK hP 0 rfl rfl 6 (by decide) l_110 (fun _ h9 => h9) rfl dX11_findCovers_90 ?_
                    refine lv_iload hx hb dX11_findCovers_93 (lv_at hl 4 rfl) ?_
                    refine kcS0 (st1 := [.int (bI (mX11_has r8 v74_4)), .int (w74_f_t_covers (Int32.toNatClampNeg v74_4)), .int v74_4, .ref a_t_covers]) X hA (c_X11_has l G cI cZ cE r8 v74_4 _ rfl) (va_cwS 2 hts gX11_findCovers_X11_has rfl rfl rfl hd_X11_has ⟨Nat.le_of_ble_eq_true rfl, Nat.le_of_ble_eq_true rfl⟩) hl.1 dX11_findCovers_95 hP hD hS [] rfl rfl rfl [.int (w74_f_t_covers (Int32.toNatClampNeg v74_4)), .int v74_4, .ref a_t_covers] rfl (Nat.le_of_ble_eq_true rfl) rfl ⟨Nat.zero_le _, Nat.zero_le _⟩ (fun H locs hP hD hS => ?_)
                    refine lv_if_eq (tgt := 116) hx hb dX11_findCovers_98 (by decide) (fun c98 => ?_) (fun c98 => ?_)
                    · have c98 := kb0 c98
                      rw [if_neg c98] at hm
                      refine lv_iconst (v := 0) hx hb dX11_findCovers_116 (by decide) ?_
                      refine lv_ior hx hb dX11_findCovers_117 ?_
                      obtain ⟨g118, hm⟩ := gd_some hm
                      refine va_iast hx hb hK hP hD hS 2 0 rfl rfl (kin_ok g118) dX11_findCovers_118 (fun H locs hP hD hS => ?_)
                      have hP : va_P G vwCl [(a_t, .inr (8, [.int k_t_knots, .ref a_t_now, .int k_t_readKnots, .ref a_t_text, .int k_t_length, .ref a_t_covers, .int r8, .ref a_t_order, .ref a_t_way, .ref a_t_tried, .int k_t_acts, .int k_t_next, .ref a_t_row, .ref a_t_lids, .ref a_t_shown, .int k_t_seen, .ref a_t_seenKnot, .ref a_t_seenLid, .ref a_t_seenHad, .long k_t_seed, .ref a_t_isKept, .ref a_t_kept])), (a_t_now, .inl (cI, 100, .inl f_t_now)), (a_t_covers, .inl (cI, 8, .inl (upd w74_f_t_covers (Int32.toNatClampNeg v74_4) ((w74_f_t_covers (Int32.toNatClampNeg v74_4)) ||| 0))))] H := hP
                      have hD : va_D A [(a_t, .inr (8, [.int k_t_knots, .ref a_t_now, .int k_t_readKnots, .ref a_t_text, .int k_t_length, .ref a_t_covers, .int r8, .ref a_t_order, .ref a_t_way, .ref a_t_tried, .int k_t_acts, .int k_t_next, .ref a_t_row, .ref a_t_lids, .ref a_t_shown, .int k_t_seen, .ref a_t_seenKnot, .ref a_t_seenLid, .ref a_t_seenHad, .long k_t_seed, .ref a_t_isKept, .ref a_t_kept])), (a_t_now, .inl (cI, 100, .inl f_t_now)), (a_t_covers, .inl (cI, 8, .inl (upd w74_f_t_covers (Int32.toNatClampNeg v74_4) ((w74_f_t_covers (Int32.toNatClampNeg v74_4)) ||| 0))))] := hD
                      refine lv_iinc (v := v74_4 + 1) (lv' := [(4, .int (v74_4 + 1)), (0, .ref a_t), (1, .int p1), (2, .int v37_2), (3, .int v74_3)]) hx hb dX11_findCovers_119 hl (k := 4) rfl rfl (by decide) rfl (fun ls hl => ?_)
                      refine lv_goto (tgt := 74) hx hb dX11_findCovers_122 (by decide) ?_
                      exact ih74 v74_3 (v74_4 + 1) (upd w74_f_t_covers (Int32.toNatClampNeg v74_4) ((w74_f_t_covers (Int32.toNatClampNeg v74_4)) ||| 0)) _ _ _ hP hD hS (lv_sub hl [1, 2, 3, 4, 0] rfl) hm
                    · have c98 := kb1 c98
                      rw [if_pos c98] at hm
                      refine lv_iload_n hx hb dX11_findCovers_101 rfl (lv_at hl 3 rfl) ?_
                      refine lv_iload hx hb dX11_findCovers_102 (lv_at hl 4 rfl) ?_
                      refine kcS0 (st1 := [.int (bI (mX11_has v74_3 v74_4)), .int (w74_f_t_covers (Int32.toNatClampNeg v74_4)), .int v74_4, .ref a_t_covers]) X hA (c_X11_has l G cI cZ cE v74_3 v74_4 _ rfl) (va_cwS 2 hts gX11_findCovers_X11_has rfl rfl rfl hd_X11_has ⟨Nat.le_of_ble_eq_true rfl, Nat.le_of_ble_eq_true rfl⟩) hl.1 dX11_findCovers_104 hP hD hS [] rfl rfl rfl [.int (w74_f_t_covers (Int32.toNatClampNeg v74_4)), .int v74_4, .ref a_t_covers] rfl (Nat.le_of_ble_eq_true rfl) rfl ⟨Nat.zero_le _, Nat.zero_le _⟩ (fun H locs hP hD hS => ?_)
                      refine lv_if_ne (tgt := 116) hx hb dX11_findCovers_107 (by decide) (fun c107 => ?_) (fun c107 => ?_)
                      · have c107 := kb1 c107
                        rw [if_pos c107] at hm
                        refine lv_iconst (v := 0) hx hb dX11_findCovers_116 (by decide) ?_
                        refine lv_ior hx hb dX11_findCovers_117 ?_
                        obtain ⟨g118, hm⟩ := gd_some hm
                        refine va_iast hx hb hK hP hD hS 2 0 rfl rfl (kin_ok g118) dX11_findCovers_118 (fun H locs hP hD hS => ?_)
                        have hP : va_P G vwCl [(a_t, .inr (8, [.int k_t_knots, .ref a_t_now, .int k_t_readKnots, .ref a_t_text, .int k_t_length, .ref a_t_covers, .int r8, .ref a_t_order, .ref a_t_way, .ref a_t_tried, .int k_t_acts, .int k_t_next, .ref a_t_row, .ref a_t_lids, .ref a_t_shown, .int k_t_seen, .ref a_t_seenKnot, .ref a_t_seenLid, .ref a_t_seenHad, .long k_t_seed, .ref a_t_isKept, .ref a_t_kept])), (a_t_now, .inl (cI, 100, .inl f_t_now)), (a_t_covers, .inl (cI, 8, .inl (upd w74_f_t_covers (Int32.toNatClampNeg v74_4) ((w74_f_t_covers (Int32.toNatClampNeg v74_4)) ||| 0))))] H := hP
                        have hD : va_D A [(a_t, .inr (8, [.int k_t_knots, .ref a_t_now, .int k_t_readKnots, .ref a_t_text, .int k_t_length, .ref a_t_covers, .int r8, .ref a_t_order, .ref a_t_way, .ref a_t_tried, .int k_t_acts, .int k_t_next, .ref a_t_row, .ref a_t_lids, .ref a_t_shown, .int k_t_seen, .ref a_t_seenKnot, .ref a_t_seenLid, .ref a_t_seenHad, .long k_t_seed, .ref a_t_isKept, .ref a_t_kept])), (a_t_now, .inl (cI, 100, .inl f_t_now)), (a_t_covers, .inl (cI, 8, .inl (upd w74_f_t_covers (Int32.toNatClampNeg v74_4) ((w74_f_t_covers (Int32.toNatClampNeg v74_4)) ||| 0))))] := hD
                        refine lv_iinc (v := v74_4 + 1) (lv' := [(4, .int (v74_4 + 1)), (0, .ref a_t), (1, .int p1), (2, .int v37_2), (3, .int v74_3)]) hx hb dX11_findCovers_119 hl (k := 4) rfl rfl (by decide) rfl (fun ls hl => ?_)
                        refine lv_goto (tgt := 74) hx hb dX11_findCovers_122 (by decide) ?_
                        exact ih74 v74_3 (v74_4 + 1) (upd w74_f_t_covers (Int32.toNatClampNeg v74_4) ((w74_f_t_covers (Int32.toNatClampNeg v74_4)) ||| 0)) _ _ _ hP hD hS (lv_sub hl [1, 2, 3, 4, 0] rfl) hm
                      · have c107 := kb0 c107
                        rw [if_neg c107] at hm
                        refine lv_iconst (v := 1) hx hb dX11_findCovers_110 (by decide) ?_
                        refine lv_iload_n hx hb dX11_findCovers_111 rfl (lv_at hl 2 rfl) ?_
                        refine lv_ishl hx hb dX11_findCovers_112 ?_
                        refine lv_goto (tgt := 117) hx hb dX11_findCovers_113 (by decide) ?_
                        refine lv_ior hx hb dX11_findCovers_117 ?_
                        obtain ⟨g118, hm⟩ := gd_some hm
                        refine va_iast hx hb hK hP hD hS 2 0 rfl rfl (kin_ok g118) dX11_findCovers_118 (fun H locs hP hD hS => ?_)
                        have hP : va_P G vwCl [(a_t, .inr (8, [.int k_t_knots, .ref a_t_now, .int k_t_readKnots, .ref a_t_text, .int k_t_length, .ref a_t_covers, .int r8, .ref a_t_order, .ref a_t_way, .ref a_t_tried, .int k_t_acts, .int k_t_next, .ref a_t_row, .ref a_t_lids, .ref a_t_shown, .int k_t_seen, .ref a_t_seenKnot, .ref a_t_seenLid, .ref a_t_seenHad, .long k_t_seed, .ref a_t_isKept, .ref a_t_kept])), (a_t_now, .inl (cI, 100, .inl f_t_now)), (a_t_covers, .inl (cI, 8, .inl (upd w74_f_t_covers (Int32.toNatClampNeg v74_4) ((w74_f_t_covers (Int32.toNatClampNeg v74_4)) ||| (1 <<< (v37_2 &&& 31))))))] H := hP
                        have hD : va_D A [(a_t, .inr (8, [.int k_t_knots, .ref a_t_now, .int k_t_readKnots, .ref a_t_text, .int k_t_length, .ref a_t_covers, .int r8, .ref a_t_order, .ref a_t_way, .ref a_t_tried, .int k_t_acts, .int k_t_next, .ref a_t_row, .ref a_t_lids, .ref a_t_shown, .int k_t_seen, .ref a_t_seenKnot, .ref a_t_seenLid, .ref a_t_seenHad, .long k_t_seed, .ref a_t_isKept, .ref a_t_kept])), (a_t_now, .inl (cI, 100, .inl f_t_now)), (a_t_covers, .inl (cI, 8, .inl (upd w74_f_t_covers (Int32.toNatClampNeg v74_4) ((w74_f_t_covers (Int32.toNatClampNeg v74_4)) ||| (1 <<< (v37_2 &&& 31))))))] := hD
                        refine lv_iinc (v := v74_4 + 1) (lv' := [(4, .int (v74_4 + 1)), (0, .ref a_t), (1, .int p1), (2, .int v37_2), (3, .int v74_3)]) hx hb dX11_findCovers_119 hl (k := 4) rfl rfl (by decide) rfl (fun ls hl => ?_)
                        refine lv_goto (tgt := 74) hx hb dX11_findCovers_122 (by decide) ?_
                        exact ih74 v74_3 (v74_4 + 1) (upd w74_f_t_covers (Int32.toNatClampNeg v74_4) ((w74_f_t_covers (Int32.toNatClampNeg v74_4)) ||| (1 <<< (v37_2 &&& 31)))) _ _ _ hP hD hS (lv_sub hl [1, 2, 3, 4, 0] rfl) hm
              refine lv_if_eq (tgt := 66) hx hb dX11_findCovers_51 (by decide) (fun c51 => ?_) (fun c51 => ?_)
              · have c51 := kb0 c51
                rw [if_neg c51] at hm
                refine lv_aload_n hx hb dX11_findCovers_66 rfl (lv_at hl 0 rfl) ?_
                refine va_get (D := G) (ci := 8) (v := .int r8) (C := RX11) (T := TX11) (N := 22) hx hb hts i_X11 hown hK hP 0 rfl rfl 6 (by decide) l_110 (fun _ h9 => h9) rfl dX11_findCovers_67 ?_
                refine lv_istore_n (lv' := [(3, .int r8), (0, .ref a_t), (1, .int p1), (2, .int v37_2)]) hx hb dX11_findCovers_70 rfl hl (by decide) rfl (fun ls hl => ?_)
                refine lv_iconst (v := 0) hx hb dX11_findCovers_71 (by decide) ?_
                refine lv_istore (lv' := [(4, .int 0), (3, .int r8), (0, .ref a_t), (1, .int p1), (2, .int v37_2)]) hx hb dX11_findCovers_72 hl (by decide) rfl (fun ls hl => ?_)
                exact h74 kFU r8 0 w37_f_t_covers _ _ _ hP hD hS (lv_sub hl [2, 3, 4, 1, 0] rfl) hm
              · have c51 := kb1 c51
                rw [if_pos c51] at hm
                refine lv_aload_n hx hb dX11_findCovers_54 rfl (lv_at hl 0 rfl) ?_
                refine lv_iload_n hx hb dX11_findCovers_55 rfl (lv_at hl 1 rfl) ?_
                refine lv_iload_n hx hb dX11_findCovers_56 rfl (lv_at hl 2 rfl) ?_
                refine lv_bipush (v := (-9)) hx hb dX11_findCovers_57 (by decide) ?_
                refine lv_iconst (v := 0) hx hb dX11_findCovers_59 (by decide) ?_
                obtain ⟨r60, hc60, hm⟩ := kbind hm
                refine kcV0 (st1 := [.int r60]) X hA (c_X11_reachedBy l G cI cZ cE a_t a_t_now a_t_text a_t_covers a_t_order a_t_way a_t_tried a_t_row a_t_lids a_t_shown a_t_seenKnot a_t_seenLid a_t_seenHad a_t_isKept a_t_kept k_t_knots k_t_readKnots k_t_length r8 k_t_acts k_t_next k_t_seen k_t_seed f_t_now p1 v37_2 (-9) 0 r60 hc60) (cwV 4 hts gX11_findCovers_X11_reachedBy rfl rfl rfl hd_X11_reachedBy ⟨Nat.le_of_ble_eq_true rfl, Nat.le_of_ble_eq_true rfl⟩) 0 8 rfl rfl hl.1 dX11_findCovers_60 hP hD hS [0, 1] rfl rfl rfl [] rfl (Nat.le_of_ble_eq_true rfl) rfl ⟨Nat.zero_le _, Nat.zero_le _⟩ (fun H locs hP hD hS => ?_)
                refine lv_goto (tgt := 70) hx hb dX11_findCovers_63 (by decide) ?_
                refine lv_istore_n (lv' := [(3, .int r60), (0, .ref a_t), (1, .int p1), (2, .int v37_2)]) hx hb dX11_findCovers_70 rfl hl (by decide) rfl (fun ls hl => ?_)
                refine lv_iconst (v := 0) hx hb dX11_findCovers_71 (by decide) ?_
                refine lv_istore (lv' := [(4, .int 0), (3, .int r60), (0, .ref a_t), (1, .int p1), (2, .int v37_2)]) hx hb dX11_findCovers_72 hl (by decide) rfl (fun ls hl => ?_)
                exact h74 kFU r60 0 w37_f_t_covers _ _ _ hP hD hS (lv_sub hl [2, 3, 4, 1, 0] rfl) hm
        exact h37 kFU 0 w16_f_t_covers _ _ _ hP hD hS (lv_sub hl [1, 2, 0] rfl) hm
      · rw [if_neg c19] at hm
        refine lv_aload_n hx hb dX11_findCovers_22 rfl (lv_at hl 0 rfl) ?_
        refine va_get (D := G) (ci := 8) (v := .ref a_t_covers) (C := RX11) (T := TX11) (N := 22) hx hb hts i_X11 hown hK hP 0 rfl rfl 5 (by decide) l_20 (fun _ h9 => h9) rfl dX11_findCovers_23 ?_
        refine lv_iload_n hx hb dX11_findCovers_26 rfl (lv_at hl 2 rfl) ?_
        refine lv_iconst (v := 0) hx hb dX11_findCovers_27 (by decide) ?_
        obtain ⟨g28, hm⟩ := gd_some hm
        refine va_iast hx hb hK hP hD hS 2 0 rfl rfl (kin_ok g28) dX11_findCovers_28 (fun H locs hP hD hS => ?_)
        have hP : va_P G vwCl [(a_t, .inr (8, [.int k_t_knots, .ref a_t_now, .int k_t_readKnots, .ref a_t_text, .int k_t_length, .ref a_t_covers, .int r8, .ref a_t_order, .ref a_t_way, .ref a_t_tried, .int k_t_acts, .int k_t_next, .ref a_t_row, .ref a_t_lids, .ref a_t_shown, .int k_t_seen, .ref a_t_seenKnot, .ref a_t_seenLid, .ref a_t_seenHad, .long k_t_seed, .ref a_t_isKept, .ref a_t_kept])), (a_t_now, .inl (cI, 100, .inl f_t_now)), (a_t_covers, .inl (cI, 8, .inl (upd w16_f_t_covers (Int32.toNatClampNeg v16_2) 0)))] H := hP
        have hD : va_D A [(a_t, .inr (8, [.int k_t_knots, .ref a_t_now, .int k_t_readKnots, .ref a_t_text, .int k_t_length, .ref a_t_covers, .int r8, .ref a_t_order, .ref a_t_way, .ref a_t_tried, .int k_t_acts, .int k_t_next, .ref a_t_row, .ref a_t_lids, .ref a_t_shown, .int k_t_seen, .ref a_t_seenKnot, .ref a_t_seenLid, .ref a_t_seenHad, .long k_t_seed, .ref a_t_isKept, .ref a_t_kept])), (a_t_now, .inl (cI, 100, .inl f_t_now)), (a_t_covers, .inl (cI, 8, .inl (upd w16_f_t_covers (Int32.toNatClampNeg v16_2) 0)))] := hD
        refine lv_iinc (v := v16_2 + 1) (lv' := [(2, .int (v16_2 + 1)), (0, .ref a_t), (1, .int p1)]) hx hb dX11_findCovers_29 hl (k := 2) rfl rfl (by decide) rfl (fun ls hl => ?_)
        refine lv_goto (tgt := 16) hx hb dX11_findCovers_32 (by decide) ?_
        exact ih16 (v16_2 + 1) (upd w16_f_t_covers (Int32.toNatClampNeg v16_2) 0) _ _ _ hP hD hS (lv_sub hl [1, 2, 0] rfl) hm
  exact h16 kFU 0 f_t_covers _ _ _ hP hD hS (lv_sub hl [1, 2, 0] rfl) hm
theorem hd_X11_findCovers : yX11_findCovers.cls = RX11 ∧ yX11_findCovers.cls ≠ "java/lang/invoke/MethodHandle" ∧ yX11_findCovers.cls ≠ "java/lang/invoke/VarHandle" ∧ (parseMethodDescriptor yX11_findCovers.desc).map (fun d => d.parameters.length) = some 1 := by decide +kernel
/-! CoverOrderModel depthOf -/
set_option maxRecDepth 100000 in
set_option maxHeartbeats 4000000 in
theorem c_X11_depthOf (l : Launch) (G : va_G) (cI cZ cE : ClassId) (a_t a_t_now a_t_text a_t_covers a_t_order a_t_way a_t_tried a_t_row a_t_lids a_t_shown a_t_seenKnot a_t_seenLid a_t_seenHad a_t_isKept a_t_kept : Nat) (k_t_knots : Int32) (k_t_readKnots : Int32) (k_t_length : Int32) (k_t_reached : Int32) (k_t_acts : Int32) (k_t_next : Int32) (k_t_seen : Int32) (k_t_seed : Int64) (f_t_covers : Nat → Int32) (p1 : Int32) (R : Int32) (hm : mX11_depthOf k_t_reached f_t_covers p1 = some R) : kM l yX11_depthOf wsX11_depthOf { frames := 1, cells := 0, slots := 0, locals := 22 } G cI cZ cE [.ref a_t, .int p1] [(a_t, .inr (8, [.int k_t_knots, .ref a_t_now, .int k_t_readKnots, .ref a_t_text, .int k_t_length, .ref a_t_covers, .int k_t_reached, .ref a_t_order, .ref a_t_way, .ref a_t_tried, .int k_t_acts, .int k_t_next, .ref a_t_row, .ref a_t_lids, .ref a_t_shown, .int k_t_seen, .ref a_t_seenKnot, .ref a_t_seenLid, .ref a_t_seenHad, .long k_t_seed, .ref a_t_isKept, .ref a_t_kept])), (a_t_covers, .inl (cI, 8, .inl f_t_covers))] [(a_t, .inr (8, [.int k_t_knots, .ref a_t_now, .int k_t_readKnots, .ref a_t_text, .int k_t_length, .ref a_t_covers, .int k_t_reached, .ref a_t_order, .ref a_t_way, .ref a_t_tried, .int k_t_acts, .int k_t_next, .ref a_t_row, .ref a_t_lids, .ref a_t_shown, .int k_t_seen, .ref a_t_seenKnot, .ref a_t_seenLid, .ref a_t_seenHad, .long k_t_seed, .ref a_t_isKept, .ref a_t_kept])), (a_t_covers, .inl (cI, 8, .inl f_t_covers))] (some (.int R)) := by
  refine kM_of cX11_depthOf 2 (some .int) RX11 (by decide) rfl rfl (Nat.le_of_ble_eq_true rfl) ?_
  intro p e s m below meth c A ls X hA hP hD hS hl
  have hx := X.1.1
  have hb := X.1.2.1
  have hts := X.1.2.2.2.2
  have hown := X.1.2.2.2.1
  have hK := X.2.2.2.1
  have l_110 : (.fieldLink RX11 110 "CoverOrderModel" "reached" "I" : Cond).before _ s = true := hts _ (List.mem_of_getElem? (i := 1) (by decide +kernel))
  have i_X11 : ∀ w ∈ u_ws RX11 TX11 22, w ∈ wsX11_depthOf := k_in _ [10, 11, 12, 13, 14, 15, 16, 17, 18, 19, 20, 21, 22, 23, 24, 25, 26, 27, 28, 29, 30, 31] (by decide +kernel)
  have l_20 : (.fieldLink RX11 20 "CoverOrderModel" "covers" "[I" : Cond).before _ s = true := hts _ (List.mem_of_getElem? (i := 2) (by decide +kernel))
  have hl : lv_has ls 2 [(0, .ref a_t), (1, .int p1)] := hl
  rw [mX11_depthOf] at hm
  refine lv_aload_n hx hb dX11_depthOf_0 rfl (lv_at hl 0 rfl) ?_
  refine va_get (D := G) (ci := 8) (v := .int k_t_reached) (C := RX11) (T := TX11) (N := 22) hx hb hts i_X11 hown hK hP 0 rfl rfl 6 (by decide) l_110 (fun _ h9 => h9) rfl dX11_depthOf_1 ?_
  refine lv_iload_n hx hb dX11_depthOf_4 rfl (lv_at hl 1 rfl) ?_
  refine kcS0 (st1 := [.int (bI (mX11_has k_t_reached p1))]) X hA (c_X11_has l G cI cZ cE k_t_reached p1 _ rfl) (va_cwS 2 hts gX11_depthOf_X11_has rfl rfl rfl hd_X11_has ⟨Nat.le_of_ble_eq_true rfl, Nat.le_of_ble_eq_true rfl⟩) hl.1 dX11_depthOf_5 hP hD hS [] rfl rfl rfl [] rfl (Nat.le_of_ble_eq_true rfl) rfl ⟨Nat.zero_le _, Nat.zero_le _⟩ (fun H locs hP hD hS => ?_)
  refine lv_if_eq (tgt := 25) hx hb dX11_depthOf_8 (by decide) (fun c8 => ?_) (fun c8 => ?_)
  · have c8 := kb0 c8
    rw [if_neg c8] at hm
    refine lv_bipush (v := (-9)) hx hb dX11_depthOf_25 (by decide) ?_
    have hm := Option.some.inj hm
    subst hm
    exact k_iret (v := (-9)) X rfl dX11_depthOf_27 hP hD hS
  · have c8 := kb1 c8
    rw [if_pos c8] at hm
    refine lv_aload_n hx hb dX11_depthOf_11 rfl (lv_at hl 0 rfl) ?_
    refine va_get (D := G) (ci := 8) (v := .ref a_t_covers) (C := RX11) (T := TX11) (N := 22) hx hb hts i_X11 hown hK hP 0 rfl rfl 5 (by decide) l_20 (fun _ h9 => h9) rfl dX11_depthOf_12 ?_
    refine lv_iload_n hx hb dX11_depthOf_15 rfl (lv_at hl 1 rfl) ?_
    obtain ⟨g16, hm⟩ := gd_some hm
    refine va_iald hx hb hK hP 1 0 rfl rfl (kin_ok g16) dX11_depthOf_16 ?_
    obtain ⟨r17, hc17, hm⟩ := kbind hm
    refine kcS0 (st1 := [.int r17]) X hA (c_X11_ones l G cI cZ cE (f_t_covers (Int32.toNatClampNeg p1)) r17 hc17) (va_cwS 1 hts gX11_depthOf_X11_ones rfl rfl rfl hd_X11_ones ⟨Nat.le_of_ble_eq_true rfl, Nat.le_of_ble_eq_true rfl⟩) hl.1 dX11_depthOf_17 hP hD hS [] rfl rfl rfl [] rfl (Nat.le_of_ble_eq_true rfl) rfl ⟨Nat.zero_le _, Nat.zero_le _⟩ (fun H locs hP hD hS => ?_)
    refine lv_iconst (v := 1) hx hb dX11_depthOf_20 (by decide) ?_
    refine lv_isub hx hb dX11_depthOf_21 ?_
    refine lv_goto (tgt := 27) hx hb dX11_depthOf_22 (by decide) ?_
    have hm := Option.some.inj hm
    subst hm
    exact k_iret (v := r17 - 1) X rfl dX11_depthOf_27 hP hD hS
theorem hd_X11_depthOf : yX11_depthOf.cls = RX11 ∧ yX11_depthOf.cls ≠ "java/lang/invoke/MethodHandle" ∧ yX11_depthOf.cls ≠ "java/lang/invoke/VarHandle" ∧ (parseMethodDescriptor yX11_depthOf.desc).map (fun d => d.parameters.length) = some 1 := by decide +kernel
/-! CoverOrderModel lidOf -/
set_option maxRecDepth 100000 in
set_option maxHeartbeats 4000000 in
theorem c_X11_lidOf (l : Launch) (G : va_G) (cI cZ cE : ClassId) (a_t a_t_now a_t_text a_t_covers a_t_order a_t_way a_t_tried a_t_row a_t_lids a_t_shown a_t_seenKnot a_t_seenLid a_t_seenHad a_t_isKept a_t_kept : Nat) (k_t_knots : Int32) (k_t_readKnots : Int32) (k_t_length : Int32) (k_t_reached : Int32) (k_t_acts : Int32) (k_t_next : Int32) (k_t_seen : Int32) (k_t_seed : Int64) (f_t_covers : Nat → Int32) (p1 : Int32) (R : Int32) (hm : mX11_lidOf k_t_reached f_t_covers p1 = some R) : kM l yX11_lidOf wsX11_lidOf { frames := 1, cells := 0, slots := 0, locals := 21 } G cI cZ cE [.ref a_t, .int p1] [(a_t, .inr (8, [.int k_t_knots, .ref a_t_now, .int k_t_readKnots, .ref a_t_text, .int k_t_length, .ref a_t_covers, .int k_t_reached, .ref a_t_order, .ref a_t_way, .ref a_t_tried, .int k_t_acts, .int k_t_next, .ref a_t_row, .ref a_t_lids, .ref a_t_shown, .int k_t_seen, .ref a_t_seenKnot, .ref a_t_seenLid, .ref a_t_seenHad, .long k_t_seed, .ref a_t_isKept, .ref a_t_kept])), (a_t_covers, .inl (cI, 8, .inl f_t_covers))] [(a_t, .inr (8, [.int k_t_knots, .ref a_t_now, .int k_t_readKnots, .ref a_t_text, .int k_t_length, .ref a_t_covers, .int k_t_reached, .ref a_t_order, .ref a_t_way, .ref a_t_tried, .int k_t_acts, .int k_t_next, .ref a_t_row, .ref a_t_lids, .ref a_t_shown, .int k_t_seen, .ref a_t_seenKnot, .ref a_t_seenLid, .ref a_t_seenHad, .long k_t_seed, .ref a_t_isKept, .ref a_t_kept])), (a_t_covers, .inl (cI, 8, .inl f_t_covers))] (some (.int R)) := by
  refine kM_of cX11_lidOf 5 (some .int) RX11 (by decide) rfl rfl (Nat.le_of_ble_eq_true rfl) ?_
  intro p e s m below meth c A ls X hA hP hD hS hl
  have hx := X.1.1
  have hb := X.1.2.1
  have hts := X.1.2.2.2.2
  have hown := X.1.2.2.2.1
  have hK := X.2.2.2.1
  have l_20 : (.fieldLink RX11 20 "CoverOrderModel" "covers" "[I" : Cond).before _ s = true := hts _ (List.mem_of_getElem? (i := 2) (by decide +kernel))
  have i_X11 : ∀ w ∈ u_ws RX11 TX11 22, w ∈ wsX11_lidOf := k_in _ [7, 8, 9, 10, 11, 12, 13, 14, 15, 16, 17, 18, 19, 20, 21, 22, 23, 24, 25, 26, 27, 28] (by decide +kernel)
  have l_110 : (.fieldLink RX11 110 "CoverOrderModel" "reached" "I" : Cond).before _ s = true := hts _ (List.mem_of_getElem? (i := 1) (by decide +kernel))
  have hl : lv_has ls 5 [(0, .ref a_t), (1, .int p1)] := hl
  rw [mX11_lidOf] at hm
  refine lv_bipush (v := (-9)) hx hb dX11_lidOf_0 (by decide) ?_
  refine lv_istore_n (lv' := [(2, .int (-9)), (0, .ref a_t), (1, .int p1)]) hx hb dX11_lidOf_2 rfl hl (by decide) rfl (fun ls hl => ?_)
  refine lv_iconst (v := 0) hx hb dX11_lidOf_3 (by decide) ?_
  refine lv_istore_n (lv' := [(3, .int 0), (2, .int (-9)), (0, .ref a_t), (1, .int p1)]) hx hb dX11_lidOf_4 rfl hl (by decide) rfl (fun ls hl => ?_)
  have h5 : ∀ (n5 : Nat), ∀ (v5_2 : Int32) (v5_3 : Int32) (H : Heap) (locs : List Loc) (ls : Array Slot), va_P G vwCl [(a_t, .inr (8, [.int k_t_knots, .ref a_t_now, .int k_t_readKnots, .ref a_t_text, .int k_t_length, .ref a_t_covers, .int k_t_reached, .ref a_t_order, .ref a_t_way, .ref a_t_tried, .int k_t_acts, .int k_t_next, .ref a_t_row, .ref a_t_lids, .ref a_t_shown, .int k_t_seen, .ref a_t_seenKnot, .ref a_t_seenLid, .ref a_t_seenHad, .long k_t_seed, .ref a_t_isKept, .ref a_t_kept])), (a_t_covers, .inl (cI, 8, .inl f_t_covers))] H → va_D A [(a_t, .inr (8, [.int k_t_knots, .ref a_t_now, .int k_t_readKnots, .ref a_t_text, .int k_t_length, .ref a_t_covers, .int k_t_reached, .ref a_t_order, .ref a_t_way, .ref a_t_tried, .int k_t_acts, .int k_t_next, .ref a_t_row, .ref a_t_lids, .ref a_t_shown, .int k_t_seen, .ref a_t_seenKnot, .ref a_t_seenLid, .ref a_t_seenHad, .long k_t_seed, .ref a_t_isKept, .ref a_t_kept])), (a_t_covers, .inl (cI, 8, .inl f_t_covers))] → va_S A s.heap H locs → lv_has ls 5 [(0, .ref a_t), (1, .int p1), (2, .int v5_2), (3, .int v5_3)] → mX11_lidOf_L5 k_t_reached f_t_covers p1 n5 v5_2 v5_3 = some R → W p l e { frames := 1, cells := 0, slots := 0, locals := 21 } s m ([.ref a_t, .int p1] : List Value).toArray below meth c H locs 0 0 (kQ below G [(a_t, .inr (8, [.int k_t_knots, .ref a_t_now, .int k_t_readKnots, .ref a_t_text, .int k_t_length, .ref a_t_covers, .int k_t_reached, .ref a_t_order, .ref a_t_way, .ref a_t_tried, .int k_t_acts, .int k_t_next, .ref a_t_row, .ref a_t_lids, .ref a_t_shown, .int k_t_seen, .ref a_t_seenKnot, .ref a_t_seenLid, .ref a_t_seenHad, .long k_t_seed, .ref a_t_isKept, .ref a_t_kept])), (a_t_covers, .inl (cI, 8, .inl f_t_covers))] (some (.int R)) A ([.ref a_t, .int p1] : List Value).toArray s) (F0 m 5 ls []) := by
    intro n5
    induction n5 with
    | zero => intro v5_2 v5_3 H locs ls hP hD hS hl hm; rw [mX11_lidOf_L5] at hm; cases hm
    | succ n5 ih5 =>
      intro v5_2 v5_3 H locs ls hP hD hS hl hm
      rw [mX11_lidOf_L5] at hm
      refine lv_iload_n hx hb dX11_lidOf_5 rfl (lv_at hl 3 rfl) ?_
      refine lv_bipush (v := 8) hx hb dX11_lidOf_6 (by decide) ?_
      refine lv_icmp_ge (tgt := 93) hx hb dX11_lidOf_8 (by decide) (fun c8 => ?_) (fun c8 => ?_)
      · rw [if_pos c8] at hm
        refine lv_iload_n hx hb dX11_lidOf_93 rfl (lv_at hl 2 rfl) ?_
        have hm := Option.some.inj hm
        subst hm
        exact k_iret (v := v5_2) X rfl dX11_lidOf_94 hP hD hS
      · rw [if_neg c8] at hm
        refine lv_iload_n hx hb dX11_lidOf_11 rfl (lv_at hl 1 rfl) ?_
        have h55 : ∀ (s55_0 : Bool) (H : Heap) (locs : List Loc) (ls : Array Slot), va_P G vwCl [(a_t, .inr (8, [.int k_t_knots, .ref a_t_now, .int k_t_readKnots, .ref a_t_text, .int k_t_length, .ref a_t_covers, .int k_t_reached, .ref a_t_order, .ref a_t_way, .ref a_t_tried, .int k_t_acts, .int k_t_next, .ref a_t_row, .ref a_t_lids, .ref a_t_shown, .int k_t_seen, .ref a_t_seenKnot, .ref a_t_seenLid, .ref a_t_seenHad, .long k_t_seed, .ref a_t_isKept, .ref a_t_kept])), (a_t_covers, .inl (cI, 8, .inl f_t_covers))] H → va_D A [(a_t, .inr (8, [.int k_t_knots, .ref a_t_now, .int k_t_readKnots, .ref a_t_text, .int k_t_length, .ref a_t_covers, .int k_t_reached, .ref a_t_order, .ref a_t_way, .ref a_t_tried, .int k_t_acts, .int k_t_next, .ref a_t_row, .ref a_t_lids, .ref a_t_shown, .int k_t_seen, .ref a_t_seenKnot, .ref a_t_seenLid, .ref a_t_seenHad, .long k_t_seed, .ref a_t_isKept, .ref a_t_kept])), (a_t_covers, .inl (cI, 8, .inl f_t_covers))] → va_S A s.heap H locs → lv_has ls 5 [(0, .ref a_t), (1, .int p1), (2, .int v5_2), (3, .int v5_3)] → mX11_lidOf_J55 (mX11_lidOf_L5 k_t_reached f_t_covers p1 n5) f_t_covers v5_2 v5_3 s55_0 = some R → W p l e { frames := 1, cells := 0, slots := 0, locals := 21 } s m ([.ref a_t, .int p1] : List Value).toArray below meth c H locs 0 0 (kQ below G [(a_t, .inr (8, [.int k_t_knots, .ref a_t_now, .int k_t_readKnots, .ref a_t_text, .int k_t_length, .ref a_t_covers, .int k_t_reached, .ref a_t_order, .ref a_t_way, .ref a_t_tried, .int k_t_acts, .int k_t_next, .ref a_t_row, .ref a_t_lids, .ref a_t_shown, .int k_t_seen, .ref a_t_seenKnot, .ref a_t_seenLid, .ref a_t_seenHad, .long k_t_seed, .ref a_t_isKept, .ref a_t_kept])), (a_t_covers, .inl (cI, 8, .inl f_t_covers))] (some (.int R)) A ([.ref a_t, .int p1] : List Value).toArray s) (F0 m 55 ls [.int (bI s55_0)]) := by
          intro s55_0 H locs ls hP hD hS hl hm
          rw [mX11_lidOf_J55] at hm
          refine lv_istore (lv' := [(4, .int (bI s55_0)), (0, .ref a_t), (1, .int p1), (2, .int v5_2), (3, .int v5_3)]) hx hb dX11_lidOf_55 hl (by decide) rfl (fun ls hl => ?_)
          refine lv_iload hx hb dX11_lidOf_57 (lv_at hl 0 rfl) ?_
          refine lv_if_eq (tgt := 85) hx hb dX11_lidOf_59 (by decide) (fun c59 => ?_) (fun c59 => ?_)
          · have c59 := kb0 c59
            rw [if_neg c59] at hm
            refine lv_iload_n hx hb dX11_lidOf_85 rfl (lv_at hl 3 rfl) ?_
            refine lv_istore_n (lv' := [(2, .int v5_2), (4, .int (bI s55_0)), (0, .ref a_t), (1, .int p1), (3, .int v5_3)]) hx hb dX11_lidOf_86 rfl hl (by decide) rfl (fun ls hl => ?_)
            refine lv_iinc (v := v5_3 + 1) (lv' := [(3, .int (v5_3 + 1)), (2, .int v5_2), (4, .int (bI s55_0)), (0, .ref a_t), (1, .int p1)]) hx hb dX11_lidOf_87 hl (k := 4) rfl rfl (by decide) rfl (fun ls hl => ?_)
            refine lv_goto (tgt := 5) hx hb dX11_lidOf_90 (by decide) ?_
            exact ih5 v5_2 (v5_3 + 1) _ _ _ hP hD hS (lv_sub hl [3, 4, 1, 0] rfl) hm
          · have c59 := kb1 c59
            rw [if_pos c59] at hm
            refine lv_iload_n hx hb dX11_lidOf_62 rfl (lv_at hl 3 rfl) ?_
            refine lv_bipush (v := (-9)) hx hb dX11_lidOf_63 (by decide) ?_
            refine lv_icmp_eq (tgt := 81) hx hb dX11_lidOf_65 (by decide) (fun c65 => ?_) (fun c65 => ?_)
            · rw [if_pos c65] at hm
              refine lv_iload_n hx hb dX11_lidOf_81 rfl (lv_at hl 4 rfl) ?_
              refine lv_goto (tgt := 86) hx hb dX11_lidOf_82 (by decide) ?_
              refine lv_istore_n (lv' := [(2, .int v5_3), (4, .int (bI s55_0)), (0, .ref a_t), (1, .int p1), (3, .int v5_3)]) hx hb dX11_lidOf_86 rfl hl (by decide) rfl (fun ls hl => ?_)
              refine lv_iinc (v := v5_3 + 1) (lv' := [(3, .int (v5_3 + 1)), (2, .int v5_3), (4, .int (bI s55_0)), (0, .ref a_t), (1, .int p1)]) hx hb dX11_lidOf_87 hl (k := 4) rfl rfl (by decide) rfl (fun ls hl => ?_)
              refine lv_goto (tgt := 5) hx hb dX11_lidOf_90 (by decide) ?_
              exact ih5 v5_3 (v5_3 + 1) _ _ _ hP hD hS (lv_sub hl [3, 4, 1, 0] rfl) hm
            · rw [if_neg c65] at hm
              refine lv_aload_n hx hb dX11_lidOf_68 rfl (lv_at hl 1 rfl) ?_
              refine va_get (D := G) (ci := 8) (v := .ref a_t_covers) (C := RX11) (T := TX11) (N := 22) hx hb hts i_X11 hown hK hP 0 rfl rfl 5 (by decide) l_20 (fun _ h9 => h9) rfl dX11_lidOf_69 ?_
              refine lv_iload_n hx hb dX11_lidOf_72 rfl (lv_at hl 4 rfl) ?_
              obtain ⟨g73, hm⟩ := gd_some hm
              refine va_iald hx hb hK hP 1 0 rfl rfl (kin_ok g73) dX11_lidOf_73 ?_
              refine lv_iload_n hx hb dX11_lidOf_74 rfl (lv_at hl 3 rfl) ?_
              refine kcS0 (st1 := [.int (bI (mX11_has (f_t_covers (Int32.toNatClampNeg v5_3)) v5_2))]) X hA (c_X11_has l G cI cZ cE (f_t_covers (Int32.toNatClampNeg v5_3)) v5_2 _ rfl) (va_cwS 2 hts gX11_lidOf_X11_has rfl rfl rfl hd_X11_has ⟨Nat.le_of_ble_eq_true rfl, Nat.le_of_ble_eq_true rfl⟩) hl.1 dX11_lidOf_75 hP hD hS [] rfl rfl rfl [] rfl (Nat.le_of_ble_eq_true rfl) rfl ⟨Nat.zero_le _, Nat.zero_le _⟩ (fun H locs hP hD hS => ?_)
              refine lv_if_eq (tgt := 85) hx hb dX11_lidOf_78 (by decide) (fun c78 => ?_) (fun c78 => ?_)
              · have c78 := kb0 c78
                rw [if_neg c78] at hm
                refine lv_iload_n hx hb dX11_lidOf_85 rfl (lv_at hl 3 rfl) ?_
                refine lv_istore_n (lv' := [(2, .int v5_2), (4, .int (bI s55_0)), (0, .ref a_t), (1, .int p1), (3, .int v5_3)]) hx hb dX11_lidOf_86 rfl hl (by decide) rfl (fun ls hl => ?_)
                refine lv_iinc (v := v5_3 + 1) (lv' := [(3, .int (v5_3 + 1)), (2, .int v5_2), (4, .int (bI s55_0)), (0, .ref a_t), (1, .int p1)]) hx hb dX11_lidOf_87 hl (k := 4) rfl rfl (by decide) rfl (fun ls hl => ?_)
                refine lv_goto (tgt := 5) hx hb dX11_lidOf_90 (by decide) ?_
                exact ih5 v5_2 (v5_3 + 1) _ _ _ hP hD hS (lv_sub hl [3, 4, 1, 0] rfl) hm
              · have c78 := kb1 c78
                rw [if_pos c78] at hm
                refine lv_iload_n hx hb dX11_lidOf_81 rfl (lv_at hl 4 rfl) ?_
                refine lv_goto (tgt := 86) hx hb dX11_lidOf_82 (by decide) ?_
                refine lv_istore_n (lv' := [(2, .int v5_3), (4, .int (bI s55_0)), (0, .ref a_t), (1, .int p1), (3, .int v5_3)]) hx hb dX11_lidOf_86 rfl hl (by decide) rfl (fun ls hl => ?_)
                refine lv_iinc (v := v5_3 + 1) (lv' := [(3, .int (v5_3 + 1)), (2, .int v5_3), (4, .int (bI s55_0)), (0, .ref a_t), (1, .int p1)]) hx hb dX11_lidOf_87 hl (k := 4) rfl rfl (by decide) rfl (fun ls hl => ?_)
                refine lv_goto (tgt := 5) hx hb dX11_lidOf_90 (by decide) ?_
                exact ih5 v5_3 (v5_3 + 1) _ _ _ hP hD hS (lv_sub hl [3, 4, 1, 0] rfl) hm
        refine lv_if_le (tgt := 54) hx hb dX11_lidOf_12 (by decide) (fun c12 => ?_) (fun c12 => ?_)
        · rw [if_pos c12] at hm
          refine lv_iconst (v := 0) hx hb dX11_lidOf_54 (by decide) ?_
          exact h55 false _ _ _ hP hD hS (lv_sub hl [0, 1, 2, 3] rfl) hm
        · rw [if_neg c12] at hm
          refine lv_iload_n hx hb dX11_lidOf_15 rfl (lv_at hl 1 rfl) ?_
          refine lv_bipush (v := 8) hx hb dX11_lidOf_16 (by decide) ?_
          refine lv_icmp_ge (tgt := 54) hx hb dX11_lidOf_18 (by decide) (fun c18 => ?_) (fun c18 => ?_)
          · rw [if_pos c18] at hm
            refine lv_iconst (v := 0) hx hb dX11_lidOf_54 (by decide) ?_
            exact h55 false _ _ _ hP hD hS (lv_sub hl [0, 1, 2, 3] rfl) hm
          · rw [if_neg c18] at hm
            refine lv_aload_n hx hb dX11_lidOf_21 rfl (lv_at hl 0 rfl) ?_
            refine va_get (D := G) (ci := 8) (v := .int k_t_reached) (C := RX11) (T := TX11) (N := 22) hx hb hts i_X11 hown hK hP 0 rfl rfl 6 (by decide) l_110 (fun _ h9 => h9) rfl dX11_lidOf_22 ?_
            refine lv_iload_n hx hb dX11_lidOf_25 rfl (lv_at hl 1 rfl) ?_
            refine kcS0 (st1 := [.int (bI (mX11_has k_t_reached p1))]) X hA (c_X11_has l G cI cZ cE k_t_reached p1 _ rfl) (va_cwS 2 hts gX11_lidOf_X11_has rfl rfl rfl hd_X11_has ⟨Nat.le_of_ble_eq_true rfl, Nat.le_of_ble_eq_true rfl⟩) hl.1 dX11_lidOf_26 hP hD hS [] rfl rfl rfl [] rfl (Nat.le_of_ble_eq_true rfl) rfl ⟨Nat.zero_le _, Nat.zero_le _⟩ (fun H locs hP hD hS => ?_)
            refine lv_if_eq (tgt := 54) hx hb dX11_lidOf_29 (by decide) (fun c29 => ?_) (fun c29 => ?_)
            · have c29 := kb0 c29
              rw [if_neg c29] at hm
              refine lv_iconst (v := 0) hx hb dX11_lidOf_54 (by decide) ?_
              exact h55 false _ _ _ hP hD hS (lv_sub hl [0, 1, 2, 3] rfl) hm
            · have c29 := kb1 c29
              rw [if_pos c29] at hm
              refine lv_iload_n hx hb dX11_lidOf_32 rfl (lv_at hl 3 rfl) ?_
              refine lv_iload_n hx hb dX11_lidOf_33 rfl (lv_at hl 1 rfl) ?_
              refine lv_icmp_eq (tgt := 54) hx hb dX11_lidOf_34 (by decide) (fun c34 => ?_) (fun c34 => ?_)
              · rw [if_pos c34] at hm
                refine lv_iconst (v := 0) hx hb dX11_lidOf_54 (by decide) ?_
                exact h55 false _ _ _ hP hD hS (lv_sub hl [0, 1, 2, 3] rfl) hm
              · rw [if_neg c34] at hm
                refine lv_aload_n hx hb dX11_lidOf_37 rfl (lv_at hl 0 rfl) ?_
                refine va_get (D := G) (ci := 8) (v := .ref a_t_covers) (C := RX11) (T := TX11) (N := 22) hx hb hts i_X11 hown hK hP 0 rfl rfl 5 (by decide) l_20 (fun _ h9 => h9) rfl dX11_lidOf_38 ?_
                refine lv_iload_n hx hb dX11_lidOf_41 rfl (lv_at hl 1 rfl) ?_
                obtain ⟨g42, hm⟩ := gd_some hm
                refine va_iald hx hb hK hP 1 0 rfl rfl (kin_ok g42) dX11_lidOf_42 ?_
                refine lv_iload_n hx hb dX11_lidOf_43 rfl (lv_at hl 3 rfl) ?_
                refine kcS0 (st1 := [.int (bI (mX11_has (f_t_covers (Int32.toNatClampNeg p1)) v5_3))]) X hA (c_X11_has l G cI cZ cE (f_t_covers (Int32.toNatClampNeg p1)) v5_3 _ rfl) (va_cwS 2 hts gX11_lidOf_X11_has rfl rfl rfl hd_X11_has ⟨Nat.le_of_ble_eq_true rfl, Nat.le_of_ble_eq_true rfl⟩) hl.1 dX11_lidOf_44 hP hD hS [] rfl rfl rfl [] rfl (Nat.le_of_ble_eq_true rfl) rfl ⟨Nat.zero_le _, Nat.zero_le _⟩ (fun H locs hP hD hS => ?_)
                refine lv_if_eq (tgt := 54) hx hb dX11_lidOf_47 (by decide) (fun c47 => ?_) (fun c47 => ?_)
                · have c47 := kb0 c47
                  rw [if_neg c47] at hm
                  refine lv_iconst (v := 0) hx hb dX11_lidOf_54 (by decide) ?_
                  exact h55 false _ _ _ hP hD hS (lv_sub hl [0, 1, 2, 3] rfl) hm
                · have c47 := kb1 c47
                  rw [if_pos c47] at hm
                  refine lv_iconst (v := 1) hx hb dX11_lidOf_50 (by decide) ?_
                  refine lv_goto (tgt := 55) hx hb dX11_lidOf_51 (by decide) ?_
                  exact h55 true _ _ _ hP hD hS (lv_sub hl [0, 1, 2, 3] rfl) hm
  exact h5 kFU (-9) 0 _ _ _ hP hD hS (lv_sub hl [2, 3, 1, 0] rfl) hm
theorem hd_X11_lidOf : yX11_lidOf.cls = RX11 ∧ yX11_lidOf.cls ≠ "java/lang/invoke/MethodHandle" ∧ yX11_lidOf.cls ≠ "java/lang/invoke/VarHandle" ∧ (parseMethodDescriptor yX11_lidOf.desc).map (fun d => d.parameters.length) = some 1 := by decide +kernel
/-! CoverOrderModel coveredBy -/
set_option maxRecDepth 100000 in
set_option maxHeartbeats 4000000 in
theorem c_X11_coveredBy (l : Launch) (G : va_G) (cI cZ cE : ClassId) (a_t a_t_now a_t_text a_t_covers a_t_order a_t_way a_t_tried a_t_row a_t_lids a_t_shown a_t_seenKnot a_t_seenLid a_t_seenHad a_t_isKept a_t_kept : Nat) (k_t_knots : Int32) (k_t_readKnots : Int32) (k_t_length : Int32) (k_t_reached : Int32) (k_t_acts : Int32) (k_t_next : Int32) (k_t_seen : Int32) (k_t_seed : Int64) (f_t_covers : Nat → Int32) (p1 : Int32) (R : Int32) (hm : mX11_coveredBy f_t_covers p1 = some R) : kM l yX11_coveredBy wsX11_coveredBy { frames := 1, cells := 0, slots := 0, locals := 21 } G cI cZ cE [.ref a_t, .int p1] [(a_t, .inr (8, [.int k_t_knots, .ref a_t_now, .int k_t_readKnots, .ref a_t_text, .int k_t_length, .ref a_t_covers, .int k_t_reached, .ref a_t_order, .ref a_t_way, .ref a_t_tried, .int k_t_acts, .int k_t_next, .ref a_t_row, .ref a_t_lids, .ref a_t_shown, .int k_t_seen, .ref a_t_seenKnot, .ref a_t_seenLid, .ref a_t_seenHad, .long k_t_seed, .ref a_t_isKept, .ref a_t_kept])), (a_t_covers, .inl (cI, 8, .inl f_t_covers))] [(a_t, .inr (8, [.int k_t_knots, .ref a_t_now, .int k_t_readKnots, .ref a_t_text, .int k_t_length, .ref a_t_covers, .int k_t_reached, .ref a_t_order, .ref a_t_way, .ref a_t_tried, .int k_t_acts, .int k_t_next, .ref a_t_row, .ref a_t_lids, .ref a_t_shown, .int k_t_seen, .ref a_t_seenKnot, .ref a_t_seenLid, .ref a_t_seenHad, .long k_t_seed, .ref a_t_isKept, .ref a_t_kept])), (a_t_covers, .inl (cI, 8, .inl f_t_covers))] (some (.int R)) := by
  refine kM_of cX11_coveredBy 4 (some .int) RX11 (by decide) rfl rfl (Nat.le_of_ble_eq_true rfl) ?_
  intro p e s m below meth c A ls X hA hP hD hS hl
  have hx := X.1.1
  have hb := X.1.2.1
  have hts := X.1.2.2.2.2
  have hown := X.1.2.2.2.1
  have hK := X.2.2.2.1
  have l_20 : (.fieldLink RX11 20 "CoverOrderModel" "covers" "[I" : Cond).before _ s = true := hts _ (List.mem_of_getElem? (i := 1) (by decide +kernel))
  have i_X11 : ∀ w ∈ u_ws RX11 TX11 22, w ∈ wsX11_coveredBy := k_in _ [6, 7, 8, 9, 10, 11, 12, 13, 14, 15, 16, 17, 18, 19, 20, 21, 22, 23, 24, 25, 26, 27] (by decide +kernel)
  have hl : lv_has ls 4 [(0, .ref a_t), (1, .int p1)] := hl
  rw [mX11_coveredBy] at hm
  refine lv_iconst (v := 0) hx hb dX11_coveredBy_0 (by decide) ?_
  refine lv_istore_n (lv' := [(2, .int 0), (0, .ref a_t), (1, .int p1)]) hx hb dX11_coveredBy_1 rfl hl (by decide) rfl (fun ls hl => ?_)
  refine lv_iconst (v := 0) hx hb dX11_coveredBy_2 (by decide) ?_
  refine lv_istore_n (lv' := [(3, .int 0), (2, .int 0), (0, .ref a_t), (1, .int p1)]) hx hb dX11_coveredBy_3 rfl hl (by decide) rfl (fun ls hl => ?_)
  have h4 : ∀ (n4 : Nat), ∀ (v4_2 : Int32) (v4_3 : Int32) (H : Heap) (locs : List Loc) (ls : Array Slot), va_P G vwCl [(a_t, .inr (8, [.int k_t_knots, .ref a_t_now, .int k_t_readKnots, .ref a_t_text, .int k_t_length, .ref a_t_covers, .int k_t_reached, .ref a_t_order, .ref a_t_way, .ref a_t_tried, .int k_t_acts, .int k_t_next, .ref a_t_row, .ref a_t_lids, .ref a_t_shown, .int k_t_seen, .ref a_t_seenKnot, .ref a_t_seenLid, .ref a_t_seenHad, .long k_t_seed, .ref a_t_isKept, .ref a_t_kept])), (a_t_covers, .inl (cI, 8, .inl f_t_covers))] H → va_D A [(a_t, .inr (8, [.int k_t_knots, .ref a_t_now, .int k_t_readKnots, .ref a_t_text, .int k_t_length, .ref a_t_covers, .int k_t_reached, .ref a_t_order, .ref a_t_way, .ref a_t_tried, .int k_t_acts, .int k_t_next, .ref a_t_row, .ref a_t_lids, .ref a_t_shown, .int k_t_seen, .ref a_t_seenKnot, .ref a_t_seenLid, .ref a_t_seenHad, .long k_t_seed, .ref a_t_isKept, .ref a_t_kept])), (a_t_covers, .inl (cI, 8, .inl f_t_covers))] → va_S A s.heap H locs → lv_has ls 4 [(0, .ref a_t), (1, .int p1), (2, .int v4_2), (3, .int v4_3)] → mX11_coveredBy_L4 f_t_covers p1 n4 v4_2 v4_3 = some R → W p l e { frames := 1, cells := 0, slots := 0, locals := 21 } s m ([.ref a_t, .int p1] : List Value).toArray below meth c H locs 0 0 (kQ below G [(a_t, .inr (8, [.int k_t_knots, .ref a_t_now, .int k_t_readKnots, .ref a_t_text, .int k_t_length, .ref a_t_covers, .int k_t_reached, .ref a_t_order, .ref a_t_way, .ref a_t_tried, .int k_t_acts, .int k_t_next, .ref a_t_row, .ref a_t_lids, .ref a_t_shown, .int k_t_seen, .ref a_t_seenKnot, .ref a_t_seenLid, .ref a_t_seenHad, .long k_t_seed, .ref a_t_isKept, .ref a_t_kept])), (a_t_covers, .inl (cI, 8, .inl f_t_covers))] (some (.int R)) A ([.ref a_t, .int p1] : List Value).toArray s) (F0 m 4 ls []) := by
    intro n4
    induction n4 with
    | zero => intro v4_2 v4_3 H locs ls hP hD hS hl hm; rw [mX11_coveredBy_L4] at hm; cases hm
    | succ n4 ih4 =>
      intro v4_2 v4_3 H locs ls hP hD hS hl hm
      rw [mX11_coveredBy_L4] at hm
      refine lv_iload_n hx hb dX11_coveredBy_4 rfl (lv_at hl 3 rfl) ?_
      refine lv_bipush (v := 8) hx hb dX11_coveredBy_5 (by decide) ?_
      refine lv_icmp_ge (tgt := 39) hx hb dX11_coveredBy_7 (by decide) (fun c7 => ?_) (fun c7 => ?_)
      · rw [if_pos c7] at hm
        refine lv_iload_n hx hb dX11_coveredBy_39 rfl (lv_at hl 2 rfl) ?_
        have hm := Option.some.inj hm
        subst hm
        exact k_iret (v := v4_2) X rfl dX11_coveredBy_40 hP hD hS
      · rw [if_neg c7] at hm
        refine lv_iload_n hx hb dX11_coveredBy_10 rfl (lv_at hl 2 rfl) ?_
        refine lv_aload_n hx hb dX11_coveredBy_11 rfl (lv_at hl 0 rfl) ?_
        refine va_get (D := G) (ci := 8) (v := .ref a_t_covers) (C := RX11) (T := TX11) (N := 22) hx hb hts i_X11 hown hK hP 0 rfl rfl 5 (by decide) l_20 (fun _ h9 => h9) rfl dX11_coveredBy_12 ?_
        refine lv_iload_n hx hb dX11_coveredBy_15 rfl (lv_at hl 3 rfl) ?_
        obtain ⟨g16, hm⟩ := gd_some hm
        refine va_iald hx hb hK hP 1 0 rfl rfl (kin_ok g16) dX11_coveredBy_16 ?_
        refine lv_iload_n hx hb dX11_coveredBy_17 rfl (lv_at hl 1 rfl) ?_
        refine kcS0 (st1 := [.int (bI (mX11_has (f_t_covers (Int32.toNatClampNeg v4_3)) p1)), .int v4_2]) X hA (c_X11_has l G cI cZ cE (f_t_covers (Int32.toNatClampNeg v4_3)) p1 _ rfl) (va_cwS 2 hts gX11_coveredBy_X11_has rfl rfl rfl hd_X11_has ⟨Nat.le_of_ble_eq_true rfl, Nat.le_of_ble_eq_true rfl⟩) hl.1 dX11_coveredBy_18 hP hD hS [] rfl rfl rfl [.int v4_2] rfl (Nat.le_of_ble_eq_true rfl) rfl ⟨Nat.zero_le _, Nat.zero_le _⟩ (fun H locs hP hD hS => ?_)
        refine lv_if_eq (tgt := 30) hx hb dX11_coveredBy_21 (by decide) (fun c21 => ?_) (fun c21 => ?_)
        · have c21 := kb0 c21
          rw [if_neg c21] at hm
          refine lv_iconst (v := 0) hx hb dX11_coveredBy_30 (by decide) ?_
          refine lv_ior hx hb dX11_coveredBy_31 ?_
          refine lv_istore_n (lv' := [(2, .int (v4_2 ||| 0)), (0, .ref a_t), (1, .int p1), (3, .int v4_3)]) hx hb dX11_coveredBy_32 rfl hl (by decide) rfl (fun ls hl => ?_)
          refine lv_iinc (v := v4_3 + 1) (lv' := [(3, .int (v4_3 + 1)), (2, .int (v4_2 ||| 0)), (0, .ref a_t), (1, .int p1)]) hx hb dX11_coveredBy_33 hl (k := 3) rfl rfl (by decide) rfl (fun ls hl => ?_)
          refine lv_goto (tgt := 4) hx hb dX11_coveredBy_36 (by decide) ?_
          exact ih4 (v4_2 ||| 0) (v4_3 + 1) _ _ _ hP hD hS (lv_sub hl [2, 3, 1, 0] rfl) hm
        · have c21 := kb1 c21
          rw [if_pos c21] at hm
          refine lv_iconst (v := 1) hx hb dX11_coveredBy_24 (by decide) ?_
          refine lv_iload_n hx hb dX11_coveredBy_25 rfl (lv_at hl 3 rfl) ?_
          refine lv_ishl hx hb dX11_coveredBy_26 ?_
          refine lv_goto (tgt := 31) hx hb dX11_coveredBy_27 (by decide) ?_
          refine lv_ior hx hb dX11_coveredBy_31 ?_
          refine lv_istore_n (lv' := [(2, .int (v4_2 ||| (1 <<< (v4_3 &&& 31)))), (0, .ref a_t), (1, .int p1), (3, .int v4_3)]) hx hb dX11_coveredBy_32 rfl hl (by decide) rfl (fun ls hl => ?_)
          refine lv_iinc (v := v4_3 + 1) (lv' := [(3, .int (v4_3 + 1)), (2, .int (v4_2 ||| (1 <<< (v4_3 &&& 31)))), (0, .ref a_t), (1, .int p1)]) hx hb dX11_coveredBy_33 hl (k := 3) rfl rfl (by decide) rfl (fun ls hl => ?_)
          refine lv_goto (tgt := 4) hx hb dX11_coveredBy_36 (by decide) ?_
          exact ih4 (v4_2 ||| (1 <<< (v4_3 &&& 31))) (v4_3 + 1) _ _ _ hP hD hS (lv_sub hl [2, 3, 1, 0] rfl) hm
  exact h4 kFU 0 0 _ _ _ hP hD hS (lv_sub hl [2, 3, 1, 0] rfl) hm
theorem hd_X11_coveredBy : yX11_coveredBy.cls = RX11 ∧ yX11_coveredBy.cls ≠ "java/lang/invoke/MethodHandle" ∧ yX11_coveredBy.cls ≠ "java/lang/invoke/VarHandle" ∧ (parseMethodDescriptor yX11_coveredBy.desc).map (fun d => d.parameters.length) = some 1 := by decide +kernel
/-! CoverOrderModel walk -/
set_option maxRecDepth 100000 in
set_option maxHeartbeats 4000000 in
theorem c_X11_walk (l : Launch) (G : va_G) (cI cZ cE : ClassId) (a_t a_t_now a_t_text a_t_covers a_t_order a_t_way a_t_tried a_t_row a_t_lids a_t_shown a_t_seenKnot a_t_seenLid a_t_seenHad a_t_isKept a_t_kept : Nat) (k_t_knots : Int32) (k_t_readKnots : Int32) (k_t_length : Int32) (k_t_reached : Int32) (k_t_acts : Int32) (k_t_next : Int32) (k_t_seen : Int32) (k_t_seed : Int64) (f_t_now : Nat → Int32) (f_t_order : Nat → Int32) (f_t_way : Nat → Int32) (f_t_tried : Nat → Int32) (p1 : Int32) (R : (Nat → Int32) × (Nat → Int32) × (Nat → Int32)) (hm : mX11_walk f_t_now f_t_order f_t_way f_t_tried p1 = some R) : kM l yX11_walk wsX11_walk { frames := 1, cells := 0, slots := 0, locals := 22 } G cI cZ cE [.ref a_t, .int p1] [(a_t, .inr (8, [.int k_t_knots, .ref a_t_now, .int k_t_readKnots, .ref a_t_text, .int k_t_length, .ref a_t_covers, .int k_t_reached, .ref a_t_order, .ref a_t_way, .ref a_t_tried, .int k_t_acts, .int k_t_next, .ref a_t_row, .ref a_t_lids, .ref a_t_shown, .int k_t_seen, .ref a_t_seenKnot, .ref a_t_seenLid, .ref a_t_seenHad, .long k_t_seed, .ref a_t_isKept, .ref a_t_kept])), (a_t_now, .inl (cI, 100, .inl f_t_now)), (a_t_order, .inl (cI, 8, .inl f_t_order)), (a_t_way, .inl (cI, 8, .inl f_t_way)), (a_t_tried, .inl (cI, 8, .inl f_t_tried))] [(a_t, .inr (8, [.int k_t_knots, .ref a_t_now, .int k_t_readKnots, .ref a_t_text, .int k_t_length, .ref a_t_covers, .int k_t_reached, .ref a_t_order, .ref a_t_way, .ref a_t_tried, .int k_t_acts, .int k_t_next, .ref a_t_row, .ref a_t_lids, .ref a_t_shown, .int k_t_seen, .ref a_t_seenKnot, .ref a_t_seenLid, .ref a_t_seenHad, .long k_t_seed, .ref a_t_isKept, .ref a_t_kept])), (a_t_now, .inl (cI, 100, .inl f_t_now)), (a_t_order, .inl (cI, 8, .inl R.1)), (a_t_way, .inl (cI, 8, .inl R.2.1)), (a_t_tried, .inl (cI, 8, .inl R.2.2))] none := by
  refine kM_of cX11_walk 7 none RX11 (by decide) rfl rfl (Nat.le_of_ble_eq_true rfl) ?_
  intro p e s m below meth c A ls X hA hP hD hS hl
  have hx := X.1.1
  have hb := X.1.2.1
  have hts := X.1.2.2.2.2
  have hown := X.1.2.2.2.1
  have hK := X.2.2.2.1
  have l_23 : (.fieldLink RX11 23 "CoverOrderModel" "order" "[I" : Cond).before _ s = true := hts _ (List.mem_of_getElem? (i := 1) (by decide +kernel))
  have i_X11 : ∀ w ∈ u_ws RX11 TX11 22, w ∈ wsX11_walk := k_in _ [18, 19, 20, 21, 22, 23, 24, 25, 26, 27, 28, 29, 30, 31, 32, 33, 34, 35, 36, 37, 38, 39] (by decide +kernel)
  have l_26 : (.fieldLink RX11 26 "CoverOrderModel" "way" "[I" : Cond).before _ s = true := hts _ (List.mem_of_getElem? (i := 3) (by decide +kernel))
  have l_29 : (.fieldLink RX11 29 "CoverOrderModel" "tried" "[I" : Cond).before _ s = true := hts _ (List.mem_of_getElem? (i := 2) (by decide +kernel))
  have hl : lv_has ls 7 [(0, .ref a_t), (1, .int p1)] := hl
  rw [mX11_walk] at hm
  refine lv_iconst (v := 0) hx hb dX11_walk_0 (by decide) ?_
  refine lv_istore_n (lv' := [(2, .int 0), (0, .ref a_t), (1, .int p1)]) hx hb dX11_walk_1 rfl hl (by decide) rfl (fun ls hl => ?_)
  have h2 : ∀ (n2 : Nat), ∀ (v2_2 : Int32) (w2_f_t_order : Nat → Int32) (w2_f_t_tried : Nat → Int32) (H : Heap) (locs : List Loc) (ls : Array Slot), va_P G vwCl [(a_t, .inr (8, [.int k_t_knots, .ref a_t_now, .int k_t_readKnots, .ref a_t_text, .int k_t_length, .ref a_t_covers, .int k_t_reached, .ref a_t_order, .ref a_t_way, .ref a_t_tried, .int k_t_acts, .int k_t_next, .ref a_t_row, .ref a_t_lids, .ref a_t_shown, .int k_t_seen, .ref a_t_seenKnot, .ref a_t_seenLid, .ref a_t_seenHad, .long k_t_seed, .ref a_t_isKept, .ref a_t_kept])), (a_t_now, .inl (cI, 100, .inl f_t_now)), (a_t_order, .inl (cI, 8, .inl w2_f_t_order)), (a_t_way, .inl (cI, 8, .inl f_t_way)), (a_t_tried, .inl (cI, 8, .inl w2_f_t_tried))] H → va_D A [(a_t, .inr (8, [.int k_t_knots, .ref a_t_now, .int k_t_readKnots, .ref a_t_text, .int k_t_length, .ref a_t_covers, .int k_t_reached, .ref a_t_order, .ref a_t_way, .ref a_t_tried, .int k_t_acts, .int k_t_next, .ref a_t_row, .ref a_t_lids, .ref a_t_shown, .int k_t_seen, .ref a_t_seenKnot, .ref a_t_seenLid, .ref a_t_seenHad, .long k_t_seed, .ref a_t_isKept, .ref a_t_kept])), (a_t_now, .inl (cI, 100, .inl f_t_now)), (a_t_order, .inl (cI, 8, .inl w2_f_t_order)), (a_t_way, .inl (cI, 8, .inl f_t_way)), (a_t_tried, .inl (cI, 8, .inl w2_f_t_tried))] → va_S A s.heap H locs → lv_has ls 7 [(0, .ref a_t), (1, .int p1), (2, .int v2_2)] → mX11_walk_L2 f_t_now f_t_way p1 n2 v2_2 w2_f_t_order w2_f_t_tried = some R → W p l e { frames := 1, cells := 0, slots := 0, locals := 22 } s m ([.ref a_t, .int p1] : List Value).toArray below meth c H locs 0 0 (kQ below G [(a_t, .inr (8, [.int k_t_knots, .ref a_t_now, .int k_t_readKnots, .ref a_t_text, .int k_t_length, .ref a_t_covers, .int k_t_reached, .ref a_t_order, .ref a_t_way, .ref a_t_tried, .int k_t_acts, .int k_t_next, .ref a_t_row, .ref a_t_lids, .ref a_t_shown, .int k_t_seen, .ref a_t_seenKnot, .ref a_t_seenLid, .ref a_t_seenHad, .long k_t_seed, .ref a_t_isKept, .ref a_t_kept])), (a_t_now, .inl (cI, 100, .inl f_t_now)), (a_t_order, .inl (cI, 8, .inl R.1)), (a_t_way, .inl (cI, 8, .inl R.2.1)), (a_t_tried, .inl (cI, 8, .inl R.2.2))] none A ([.ref a_t, .int p1] : List Value).toArray s) (F0 m 2 ls []) := by
    intro n2
    induction n2 with
    | zero => intro v2_2 w2_f_t_order w2_f_t_tried H locs ls hP hD hS hl hm; rw [mX11_walk_L2] at hm; cases hm
    | succ n2 ih2 =>
      intro v2_2 w2_f_t_order w2_f_t_tried H locs ls hP hD hS hl hm
      rw [mX11_walk_L2] at hm
      refine lv_iload_n hx hb dX11_walk_2 rfl (lv_at hl 2 rfl) ?_
      refine lv_bipush (v := 8) hx hb dX11_walk_3 (by decide) ?_
      have h29 : ∀ (H : Heap) (locs : List Loc) (ls : Array Slot), va_P G vwCl [(a_t, .inr (8, [.int k_t_knots, .ref a_t_now, .int k_t_readKnots, .ref a_t_text, .int k_t_length, .ref a_t_covers, .int k_t_reached, .ref a_t_order, .ref a_t_way, .ref a_t_tried, .int k_t_acts, .int k_t_next, .ref a_t_row, .ref a_t_lids, .ref a_t_shown, .int k_t_seen, .ref a_t_seenKnot, .ref a_t_seenLid, .ref a_t_seenHad, .long k_t_seed, .ref a_t_isKept, .ref a_t_kept])), (a_t_now, .inl (cI, 100, .inl f_t_now)), (a_t_order, .inl (cI, 8, .inl w2_f_t_order)), (a_t_way, .inl (cI, 8, .inl f_t_way)), (a_t_tried, .inl (cI, 8, .inl w2_f_t_tried))] H → va_D A [(a_t, .inr (8, [.int k_t_knots, .ref a_t_now, .int k_t_readKnots, .ref a_t_text, .int k_t_length, .ref a_t_covers, .int k_t_reached, .ref a_t_order, .ref a_t_way, .ref a_t_tried, .int k_t_acts, .int k_t_next, .ref a_t_row, .ref a_t_lids, .ref a_t_shown, .int k_t_seen, .ref a_t_seenKnot, .ref a_t_seenLid, .ref a_t_seenHad, .long k_t_seed, .ref a_t_isKept, .ref a_t_kept])), (a_t_now, .inl (cI, 100, .inl f_t_now)), (a_t_order, .inl (cI, 8, .inl w2_f_t_order)), (a_t_way, .inl (cI, 8, .inl f_t_way)), (a_t_tried, .inl (cI, 8, .inl w2_f_t_tried))] → va_S A s.heap H locs → lv_has ls 7 [(0, .ref a_t), (1, .int p1)] → mX11_walk_J29 f_t_now f_t_way p1 w2_f_t_order w2_f_t_tried = some R → W p l e { frames := 1, cells := 0, slots := 0, locals := 22 } s m ([.ref a_t, .int p1] : List Value).toArray below meth c H locs 0 0 (kQ below G [(a_t, .inr (8, [.int k_t_knots, .ref a_t_now, .int k_t_readKnots, .ref a_t_text, .int k_t_length, .ref a_t_covers, .int k_t_reached, .ref a_t_order, .ref a_t_way, .ref a_t_tried, .int k_t_acts, .int k_t_next, .ref a_t_row, .ref a_t_lids, .ref a_t_shown, .int k_t_seen, .ref a_t_seenKnot, .ref a_t_seenLid, .ref a_t_seenHad, .long k_t_seed, .ref a_t_isKept, .ref a_t_kept])), (a_t_now, .inl (cI, 100, .inl f_t_now)), (a_t_order, .inl (cI, 8, .inl R.1)), (a_t_way, .inl (cI, 8, .inl R.2.1)), (a_t_tried, .inl (cI, 8, .inl R.2.2))] none A ([.ref a_t, .int p1] : List Value).toArray s) (F0 m 29 ls []) := by
        intro H locs ls hP hD hS hl hm
        rw [mX11_walk_J29] at hm
        refine lv_aload_n hx hb dX11_walk_29 rfl (lv_at hl 0 rfl) ?_
        refine va_get (D := G) (ci := 8) (v := .ref a_t_order) (C := RX11) (T := TX11) (N := 22) hx hb hts i_X11 hown hK hP 0 rfl rfl 7 (by decide) l_23 (fun _ h9 => h9) rfl dX11_walk_30 ?_
        refine lv_iconst (v := 0) hx hb dX11_walk_33 (by decide) ?_
        refine lv_iconst (v := 0) hx hb dX11_walk_34 (by decide) ?_
        refine va_iast hx hb hK hP hD hS 2 0 rfl rfl (kin_ok (by decide)) dX11_walk_35 (fun H locs hP hD hS => ?_)
        have hP : va_P G vwCl [(a_t, .inr (8, [.int k_t_knots, .ref a_t_now, .int k_t_readKnots, .ref a_t_text, .int k_t_length, .ref a_t_covers, .int k_t_reached, .ref a_t_order, .ref a_t_way, .ref a_t_tried, .int k_t_acts, .int k_t_next, .ref a_t_row, .ref a_t_lids, .ref a_t_shown, .int k_t_seen, .ref a_t_seenKnot, .ref a_t_seenLid, .ref a_t_seenHad, .long k_t_seed, .ref a_t_isKept, .ref a_t_kept])), (a_t_now, .inl (cI, 100, .inl f_t_now)), (a_t_order, .inl (cI, 8, .inl (upd w2_f_t_order (Int32.toNatClampNeg 0) 0))), (a_t_way, .inl (cI, 8, .inl f_t_way)), (a_t_tried, .inl (cI, 8, .inl w2_f_t_tried))] H := hP
        have hD : va_D A [(a_t, .inr (8, [.int k_t_knots, .ref a_t_now, .int k_t_readKnots, .ref a_t_text, .int k_t_length, .ref a_t_covers, .int k_t_reached, .ref a_t_order, .ref a_t_way, .ref a_t_tried, .int k_t_acts, .int k_t_next, .ref a_t_row, .ref a_t_lids, .ref a_t_shown, .int k_t_seen, .ref a_t_seenKnot, .ref a_t_seenLid, .ref a_t_seenHad, .long k_t_seed, .ref a_t_isKept, .ref a_t_kept])), (a_t_now, .inl (cI, 100, .inl f_t_now)), (a_t_order, .inl (cI, 8, .inl (upd w2_f_t_order (Int32.toNatClampNeg 0) 0))), (a_t_way, .inl (cI, 8, .inl f_t_way)), (a_t_tried, .inl (cI, 8, .inl w2_f_t_tried))] := hD
        refine lv_aload_n hx hb dX11_walk_36 rfl (lv_at hl 0 rfl) ?_
        refine va_get (D := G) (ci := 8) (v := .ref a_t_way) (C := RX11) (T := TX11) (N := 22) hx hb hts i_X11 hown hK hP 0 rfl rfl 8 (by decide) l_26 (fun _ h9 => h9) rfl dX11_walk_37 ?_
        refine lv_iconst (v := 0) hx hb dX11_walk_40 (by decide) ?_
        refine lv_iconst (v := 0) hx hb dX11_walk_41 (by decide) ?_
        refine va_iast hx hb hK hP hD hS 3 0 rfl rfl (kin_ok (by decide)) dX11_walk_42 (fun H locs hP hD hS => ?_)
        have hP : va_P G vwCl [(a_t, .inr (8, [.int k_t_knots, .ref a_t_now, .int k_t_readKnots, .ref a_t_text, .int k_t_length, .ref a_t_covers, .int k_t_reached, .ref a_t_order, .ref a_t_way, .ref a_t_tried, .int k_t_acts, .int k_t_next, .ref a_t_row, .ref a_t_lids, .ref a_t_shown, .int k_t_seen, .ref a_t_seenKnot, .ref a_t_seenLid, .ref a_t_seenHad, .long k_t_seed, .ref a_t_isKept, .ref a_t_kept])), (a_t_now, .inl (cI, 100, .inl f_t_now)), (a_t_order, .inl (cI, 8, .inl (upd w2_f_t_order (Int32.toNatClampNeg 0) 0))), (a_t_way, .inl (cI, 8, .inl (upd f_t_way (Int32.toNatClampNeg 0) 0))), (a_t_tried, .inl (cI, 8, .inl w2_f_t_tried))] H := hP
        have hD : va_D A [(a_t, .inr (8, [.int k_t_knots, .ref a_t_now, .int k_t_readKnots, .ref a_t_text, .int k_t_length, .ref a_t_covers, .int k_t_reached, .ref a_t_order, .ref a_t_way, .ref a_t_tried, .int k_t_acts, .int k_t_next, .ref a_t_row, .ref a_t_lids, .ref a_t_shown, .int k_t_seen, .ref a_t_seenKnot, .ref a_t_seenLid, .ref a_t_seenHad, .long k_t_seed, .ref a_t_isKept, .ref a_t_kept])), (a_t_now, .inl (cI, 100, .inl f_t_now)), (a_t_order, .inl (cI, 8, .inl (upd w2_f_t_order (Int32.toNatClampNeg 0) 0))), (a_t_way, .inl (cI, 8, .inl (upd f_t_way (Int32.toNatClampNeg 0) 0))), (a_t_tried, .inl (cI, 8, .inl w2_f_t_tried))] := hD
        refine lv_iconst (v := 1) hx hb dX11_walk_43 (by decide) ?_
        refine lv_istore_n (lv' := [(2, .int 1), (0, .ref a_t), (1, .int p1)]) hx hb dX11_walk_44 rfl hl (by decide) rfl (fun ls hl => ?_)
        refine lv_iconst (v := 1) hx hb dX11_walk_45 (by decide) ?_
        refine lv_istore_n (lv' := [(3, .int 1), (2, .int 1), (0, .ref a_t), (1, .int p1)]) hx hb dX11_walk_46 rfl hl (by decide) rfl (fun ls hl => ?_)
        have h47 : ∀ (n47 : Nat), ∀ (v47_2 : Int32) (v47_3 : Int32) (w47_f_t_order : Nat → Int32) (w47_f_t_way : Nat → Int32) (w47_f_t_tried : Nat → Int32) (H : Heap) (locs : List Loc) (ls : Array Slot), va_P G vwCl [(a_t, .inr (8, [.int k_t_knots, .ref a_t_now, .int k_t_readKnots, .ref a_t_text, .int k_t_length, .ref a_t_covers, .int k_t_reached, .ref a_t_order, .ref a_t_way, .ref a_t_tried, .int k_t_acts, .int k_t_next, .ref a_t_row, .ref a_t_lids, .ref a_t_shown, .int k_t_seen, .ref a_t_seenKnot, .ref a_t_seenLid, .ref a_t_seenHad, .long k_t_seed, .ref a_t_isKept, .ref a_t_kept])), (a_t_now, .inl (cI, 100, .inl f_t_now)), (a_t_order, .inl (cI, 8, .inl w47_f_t_order)), (a_t_way, .inl (cI, 8, .inl w47_f_t_way)), (a_t_tried, .inl (cI, 8, .inl w47_f_t_tried))] H → va_D A [(a_t, .inr (8, [.int k_t_knots, .ref a_t_now, .int k_t_readKnots, .ref a_t_text, .int k_t_length, .ref a_t_covers, .int k_t_reached, .ref a_t_order, .ref a_t_way, .ref a_t_tried, .int k_t_acts, .int k_t_next, .ref a_t_row, .ref a_t_lids, .ref a_t_shown, .int k_t_seen, .ref a_t_seenKnot, .ref a_t_seenLid, .ref a_t_seenHad, .long k_t_seed, .ref a_t_isKept, .ref a_t_kept])), (a_t_now, .inl (cI, 100, .inl f_t_now)), (a_t_order, .inl (cI, 8, .inl w47_f_t_order)), (a_t_way, .inl (cI, 8, .inl w47_f_t_way)), (a_t_tried, .inl (cI, 8, .inl w47_f_t_tried))] → va_S A s.heap H locs → lv_has ls 7 [(0, .ref a_t), (1, .int p1), (2, .int v47_2), (3, .int v47_3)] → mX11_walk_L47 f_t_now p1 n47 v47_2 v47_3 w47_f_t_order w47_f_t_way w47_f_t_tried = some R → W p l e { frames := 1, cells := 0, slots := 0, locals := 22 } s m ([.ref a_t, .int p1] : List Value).toArray below meth c H locs 0 0 (kQ below G [(a_t, .inr (8, [.int k_t_knots, .ref a_t_now, .int k_t_readKnots, .ref a_t_text, .int k_t_length, .ref a_t_covers, .int k_t_reached, .ref a_t_order, .ref a_t_way, .ref a_t_tried, .int k_t_acts, .int k_t_next, .ref a_t_row, .ref a_t_lids, .ref a_t_shown, .int k_t_seen, .ref a_t_seenKnot, .ref a_t_seenLid, .ref a_t_seenHad, .long k_t_seed, .ref a_t_isKept, .ref a_t_kept])), (a_t_now, .inl (cI, 100, .inl f_t_now)), (a_t_order, .inl (cI, 8, .inl R.1)), (a_t_way, .inl (cI, 8, .inl R.2.1)), (a_t_tried, .inl (cI, 8, .inl R.2.2))] none A ([.ref a_t, .int p1] : List Value).toArray s) (F0 m 47 ls []) := by
          intro n47
          induction n47 with
          | zero => intro v47_2 v47_3 w47_f_t_order w47_f_t_way w47_f_t_tried H locs ls hP hD hS hl hm; rw [mX11_walk_L47] at hm; cases hm
          | succ n47 ih47 =>
            intro v47_2 v47_3 w47_f_t_order w47_f_t_way w47_f_t_tried H locs ls hP hD hS hl hm
            rw [mX11_walk_L47] at hm
            refine lv_iload_n hx hb dX11_walk_47 rfl (lv_at hl 3 rfl) ?_
            refine lv_if_le (tgt := 155) hx hb dX11_walk_48 (by decide) (fun c48 => ?_) (fun c48 => ?_)
            · rw [if_pos c48] at hm
              have hm := Option.some.inj hm
              subst hm
              exact k_vret X rfl dX11_walk_155 hP hD hS
            · rw [if_neg c48] at hm
              refine lv_aload_n hx hb dX11_walk_51 rfl (lv_at hl 0 rfl) ?_
              refine va_get (D := G) (ci := 8) (v := .ref a_t_way) (C := RX11) (T := TX11) (N := 22) hx hb hts i_X11 hown hK hP 0 rfl rfl 8 (by decide) l_26 (fun _ h9 => h9) rfl dX11_walk_52 ?_
              refine lv_iload_n hx hb dX11_walk_55 rfl (lv_at hl 3 rfl) ?_
              refine lv_iconst (v := 1) hx hb dX11_walk_56 (by decide) ?_
              refine lv_isub hx hb dX11_walk_57 ?_
              obtain ⟨g58, hm⟩ := gd_some hm
              refine va_iald hx hb hK hP 3 0 rfl rfl (kin_ok g58) dX11_walk_58 ?_
              refine lv_istore (lv' := [(4, .int (w47_f_t_way (Int32.toNatClampNeg (v47_3 - 1)))), (0, .ref a_t), (1, .int p1), (2, .int v47_2), (3, .int v47_3)]) hx hb dX11_walk_59 hl (by decide) rfl (fun ls hl => ?_)
              refine lv_aload_n hx hb dX11_walk_61 rfl (lv_at hl 1 rfl) ?_
              refine va_get (D := G) (ci := 8) (v := .ref a_t_tried) (C := RX11) (T := TX11) (N := 22) hx hb hts i_X11 hown hK hP 0 rfl rfl 9 (by decide) l_29 (fun _ h9 => h9) rfl dX11_walk_62 ?_
              refine lv_iload hx hb dX11_walk_65 (lv_at hl 0 rfl) ?_
              obtain ⟨g67, hm⟩ := gd_some hm
              refine va_iald hx hb hK hP 4 0 rfl rfl (kin_ok g67) dX11_walk_67 ?_
              refine lv_istore (lv' := [(5, .int (w47_f_t_tried (Int32.toNatClampNeg (w47_f_t_way (Int32.toNatClampNeg (v47_3 - 1)))))), (4, .int (w47_f_t_way (Int32.toNatClampNeg (v47_3 - 1)))), (0, .ref a_t), (1, .int p1), (2, .int v47_2), (3, .int v47_3)]) hx hb dX11_walk_68 hl (by decide) rfl (fun ls hl => ?_)
              refine lv_iload hx hb dX11_walk_70 (lv_at hl 0 rfl) ?_
              refine lv_aload_n hx hb dX11_walk_72 rfl (lv_at hl 2 rfl) ?_
              refine lv_iload_n hx hb dX11_walk_73 rfl (lv_at hl 3 rfl) ?_
              obtain ⟨r74, hc74, hm⟩ := kbind hm
              refine kcV0 (st1 := [.int r74, .int (w47_f_t_tried (Int32.toNatClampNeg (w47_f_t_way (Int32.toNatClampNeg (v47_3 - 1)))))]) X hA (c_X11_many l G cI cZ cE a_t a_t_now a_t_text a_t_covers a_t_order a_t_way a_t_tried a_t_row a_t_lids a_t_shown a_t_seenKnot a_t_seenLid a_t_seenHad a_t_isKept a_t_kept k_t_knots k_t_readKnots k_t_length k_t_reached k_t_acts k_t_next k_t_seen k_t_seed f_t_now p1 r74 hc74) (cwV 1 hts gX11_walk_X11_many rfl rfl rfl hd_X11_many ⟨Nat.le_of_ble_eq_true rfl, Nat.le_of_ble_eq_true rfl⟩) 0 8 rfl rfl hl.1 dX11_walk_74 hP hD hS [0, 1] rfl rfl rfl [.int (w47_f_t_tried (Int32.toNatClampNeg (w47_f_t_way (Int32.toNatClampNeg (v47_3 - 1)))))] rfl (Nat.le_of_ble_eq_true rfl) rfl ⟨Nat.zero_le _, Nat.zero_le _⟩ (fun H locs hP hD hS => ?_)
              refine lv_icmp_ne (tgt := 86) hx hb dX11_walk_77 (by decide) (fun c77 => ?_) (fun c77 => ?_)
              · rw [if_neg c77] at hm
                refine lv_aload_n hx hb dX11_walk_86 rfl (lv_at hl 2 rfl) ?_
                refine va_get (D := G) (ci := 8) (v := .ref a_t_tried) (C := RX11) (T := TX11) (N := 22) hx hb hts i_X11 hown hK hP 0 rfl rfl 9 (by decide) l_29 (fun _ h9 => h9) rfl dX11_walk_87 ?_
                refine lv_iload hx hb dX11_walk_90 (lv_at hl 1 rfl) ?_
                refine lv_dup2_11 hx hb dX11_walk_92 rfl rfl ?_
                obtain ⟨g93, hm⟩ := gd_some hm
                refine va_iald hx hb hK hP 4 0 rfl rfl (kin_ok g93) dX11_walk_93 ?_
                refine lv_iconst (v := 1) hx hb dX11_walk_94 (by decide) ?_
                refine lv_iadd hx hb dX11_walk_95 ?_
                obtain ⟨g96, hm⟩ := gd_some hm
                refine va_iast hx hb hK hP hD hS 4 0 rfl rfl (kin_ok g96) dX11_walk_96 (fun H locs hP hD hS => ?_)
                have hP : va_P G vwCl [(a_t, .inr (8, [.int k_t_knots, .ref a_t_now, .int k_t_readKnots, .ref a_t_text, .int k_t_length, .ref a_t_covers, .int k_t_reached, .ref a_t_order, .ref a_t_way, .ref a_t_tried, .int k_t_acts, .int k_t_next, .ref a_t_row, .ref a_t_lids, .ref a_t_shown, .int k_t_seen, .ref a_t_seenKnot, .ref a_t_seenLid, .ref a_t_seenHad, .long k_t_seed, .ref a_t_isKept, .ref a_t_kept])), (a_t_now, .inl (cI, 100, .inl f_t_now)), (a_t_order, .inl (cI, 8, .inl w47_f_t_order)), (a_t_way, .inl (cI, 8, .inl w47_f_t_way)), (a_t_tried, .inl (cI, 8, .inl (upd w47_f_t_tried (Int32.toNatClampNeg (w47_f_t_way (Int32.toNatClampNeg (v47_3 - 1)))) ((w47_f_t_tried (Int32.toNatClampNeg (w47_f_t_way (Int32.toNatClampNeg (v47_3 - 1))))) + 1))))] H := hP
                have hD : va_D A [(a_t, .inr (8, [.int k_t_knots, .ref a_t_now, .int k_t_readKnots, .ref a_t_text, .int k_t_length, .ref a_t_covers, .int k_t_reached, .ref a_t_order, .ref a_t_way, .ref a_t_tried, .int k_t_acts, .int k_t_next, .ref a_t_row, .ref a_t_lids, .ref a_t_shown, .int k_t_seen, .ref a_t_seenKnot, .ref a_t_seenLid, .ref a_t_seenHad, .long k_t_seed, .ref a_t_isKept, .ref a_t_kept])), (a_t_now, .inl (cI, 100, .inl f_t_now)), (a_t_order, .inl (cI, 8, .inl w47_f_t_order)), (a_t_way, .inl (cI, 8, .inl w47_f_t_way)), (a_t_tried, .inl (cI, 8, .inl (upd w47_f_t_tried (Int32.toNatClampNeg (w47_f_t_way (Int32.toNatClampNeg (v47_3 - 1)))) ((w47_f_t_tried (Int32.toNatClampNeg (w47_f_t_way (Int32.toNatClampNeg (v47_3 - 1))))) + 1))))] := hD
                refine lv_aload_n hx hb dX11_walk_97 rfl (lv_at hl 2 rfl) ?_
                refine lv_iload_n hx hb dX11_walk_98 rfl (lv_at hl 3 rfl) ?_
                refine lv_iload hx hb dX11_walk_99 (lv_at hl 0 rfl) ?_
                obtain ⟨r101, hc101, hm⟩ := kbind hm
                refine kcV0 (st1 := [.int r101]) X hA (c_X11_toOf l G cI cZ cE a_t a_t_now a_t_text a_t_covers a_t_order a_t_way a_t_tried a_t_row a_t_lids a_t_shown a_t_seenKnot a_t_seenLid a_t_seenHad a_t_isKept a_t_kept k_t_knots k_t_readKnots k_t_length k_t_reached k_t_acts k_t_next k_t_seen k_t_seed f_t_now p1 (w47_f_t_tried (Int32.toNatClampNeg (w47_f_t_way (Int32.toNatClampNeg (v47_3 - 1))))) r101 hc101) (cwV 2 hts gX11_walk_X11_toOf rfl rfl rfl hd_X11_toOf ⟨Nat.le_of_ble_eq_true rfl, Nat.le_of_ble_eq_true rfl⟩) 0 8 rfl rfl hl.1 dX11_walk_101 hP hD hS [0, 1] rfl rfl rfl [] rfl (Nat.le_of_ble_eq_true rfl) rfl ⟨Nat.zero_le _, Nat.zero_le _⟩ (fun H locs hP hD hS => ?_)
                refine lv_istore (lv' := [(6, .int r101), (5, .int (w47_f_t_tried (Int32.toNatClampNeg (w47_f_t_way (Int32.toNatClampNeg (v47_3 - 1)))))), (4, .int (w47_f_t_way (Int32.toNatClampNeg (v47_3 - 1)))), (0, .ref a_t), (1, .int p1), (2, .int v47_2), (3, .int v47_3)]) hx hb dX11_walk_104 hl (by decide) rfl (fun ls hl => ?_)
                refine lv_aload_n hx hb dX11_walk_106 rfl (lv_at hl 3 rfl) ?_
                refine lv_iload_n hx hb dX11_walk_107 rfl (lv_at hl 4 rfl) ?_
                refine lv_iload hx hb dX11_walk_108 (lv_at hl 1 rfl) ?_
                obtain ⟨r110, hc110, hm⟩ := kbind hm
                refine kcV0 (st1 := [.int r110]) X hA (c_X11_fromOf l G cI cZ cE a_t a_t_now a_t_text a_t_covers a_t_order a_t_way a_t_tried a_t_row a_t_lids a_t_shown a_t_seenKnot a_t_seenLid a_t_seenHad a_t_isKept a_t_kept k_t_knots k_t_readKnots k_t_length k_t_reached k_t_acts k_t_next k_t_seen k_t_seed f_t_now p1 (w47_f_t_tried (Int32.toNatClampNeg (w47_f_t_way (Int32.toNatClampNeg (v47_3 - 1))))) r110 hc110) (cwV 2 hts gX11_walk_X11_fromOf rfl rfl rfl hd_X11_fromOf ⟨Nat.le_of_ble_eq_true rfl, Nat.le_of_ble_eq_true rfl⟩) 0 8 rfl rfl hl.1 dX11_walk_110 hP hD hS [0, 1] rfl rfl rfl [] rfl (Nat.le_of_ble_eq_true rfl) rfl ⟨Nat.zero_le _, Nat.zero_le _⟩ (fun H locs hP hD hS => ?_)
                refine lv_iload hx hb dX11_walk_113 (lv_at hl 2 rfl) ?_
                refine lv_icmp_ne (tgt := 152) hx hb dX11_walk_115 (by decide) (fun c115 => ?_) (fun c115 => ?_)
                · rw [if_neg c115] at hm
                  refine lv_goto (tgt := 47) hx hb dX11_walk_152 (by decide) ?_
                  exact ih47 v47_2 v47_3 w47_f_t_order w47_f_t_way (upd w47_f_t_tried (Int32.toNatClampNeg (w47_f_t_way (Int32.toNatClampNeg (v47_3 - 1)))) ((w47_f_t_tried (Int32.toNatClampNeg (w47_f_t_way (Int32.toNatClampNeg (v47_3 - 1))))) + 1)) _ _ _ hP hD hS (lv_sub hl [3, 4, 5, 6] rfl) hm
                · rw [if_pos c115] at hm
                  refine lv_aload_n hx hb dX11_walk_118 rfl (lv_at hl 3 rfl) ?_
                  refine va_get (D := G) (ci := 8) (v := .ref a_t_order) (C := RX11) (T := TX11) (N := 22) hx hb hts i_X11 hown hK hP 0 rfl rfl 7 (by decide) l_23 (fun _ h9 => h9) rfl dX11_walk_119 ?_
                  refine lv_iload hx hb dX11_walk_122 (lv_at hl 0 rfl) ?_
                  obtain ⟨g124, hm⟩ := gd_some hm
                  refine va_iald hx hb hK hP 2 0 rfl rfl (kin_ok g124) dX11_walk_124 ?_
                  refine lv_bipush (v := (-9)) hx hb dX11_walk_125 (by decide) ?_
                  refine lv_icmp_ne (tgt := 152) hx hb dX11_walk_127 (by decide) (fun c127 => ?_) (fun c127 => ?_)
                  · rw [if_neg c127] at hm
                    refine lv_goto (tgt := 47) hx hb dX11_walk_152 (by decide) ?_
                    exact ih47 v47_2 v47_3 w47_f_t_order w47_f_t_way (upd w47_f_t_tried (Int32.toNatClampNeg (w47_f_t_way (Int32.toNatClampNeg (v47_3 - 1)))) ((w47_f_t_tried (Int32.toNatClampNeg (w47_f_t_way (Int32.toNatClampNeg (v47_3 - 1))))) + 1)) _ _ _ hP hD hS (lv_sub hl [3, 4, 5, 6] rfl) hm
                  · rw [if_pos c127] at hm
                    refine lv_aload_n hx hb dX11_walk_130 rfl (lv_at hl 3 rfl) ?_
                    refine va_get (D := G) (ci := 8) (v := .ref a_t_order) (C := RX11) (T := TX11) (N := 22) hx hb hts i_X11 hown hK hP 0 rfl rfl 7 (by decide) l_23 (fun _ h9 => h9) rfl dX11_walk_131 ?_
                    refine lv_iload hx hb dX11_walk_134 (lv_at hl 0 rfl) ?_
                    refine lv_iload_n hx hb dX11_walk_136 rfl (lv_at hl 5 rfl) ?_
                    obtain ⟨g137, hm⟩ := gd_some hm
                    refine va_iast hx hb hK hP hD hS 2 0 rfl rfl (kin_ok g137) dX11_walk_137 (fun H locs hP hD hS => ?_)
                    have hP : va_P G vwCl [(a_t, .inr (8, [.int k_t_knots, .ref a_t_now, .int k_t_readKnots, .ref a_t_text, .int k_t_length, .ref a_t_covers, .int k_t_reached, .ref a_t_order, .ref a_t_way, .ref a_t_tried, .int k_t_acts, .int k_t_next, .ref a_t_row, .ref a_t_lids, .ref a_t_shown, .int k_t_seen, .ref a_t_seenKnot, .ref a_t_seenLid, .ref a_t_seenHad, .long k_t_seed, .ref a_t_isKept, .ref a_t_kept])), (a_t_now, .inl (cI, 100, .inl f_t_now)), (a_t_order, .inl (cI, 8, .inl (upd w47_f_t_order (Int32.toNatClampNeg r101) v47_2))), (a_t_way, .inl (cI, 8, .inl w47_f_t_way)), (a_t_tried, .inl (cI, 8, .inl (upd w47_f_t_tried (Int32.toNatClampNeg (w47_f_t_way (Int32.toNatClampNeg (v47_3 - 1)))) ((w47_f_t_tried (Int32.toNatClampNeg (w47_f_t_way (Int32.toNatClampNeg (v47_3 - 1))))) + 1))))] H := hP
                    have hD : va_D A [(a_t, .inr (8, [.int k_t_knots, .ref a_t_now, .int k_t_readKnots, .ref a_t_text, .int k_t_length, .ref a_t_covers, .int k_t_reached, .ref a_t_order, .ref a_t_way, .ref a_t_tried, .int k_t_acts, .int k_t_next, .ref a_t_row, .ref a_t_lids, .ref a_t_shown, .int k_t_seen, .ref a_t_seenKnot, .ref a_t_seenLid, .ref a_t_seenHad, .long k_t_seed, .ref a_t_isKept, .ref a_t_kept])), (a_t_now, .inl (cI, 100, .inl f_t_now)), (a_t_order, .inl (cI, 8, .inl (upd w47_f_t_order (Int32.toNatClampNeg r101) v47_2))), (a_t_way, .inl (cI, 8, .inl w47_f_t_way)), (a_t_tried, .inl (cI, 8, .inl (upd w47_f_t_tried (Int32.toNatClampNeg (w47_f_t_way (Int32.toNatClampNeg (v47_3 - 1)))) ((w47_f_t_tried (Int32.toNatClampNeg (w47_f_t_way (Int32.toNatClampNeg (v47_3 - 1))))) + 1))))] := hD
                    refine lv_iinc (v := v47_2 + 1) (lv' := [(2, .int (v47_2 + 1)), (6, .int r101), (5, .int (w47_f_t_tried (Int32.toNatClampNeg (w47_f_t_way (Int32.toNatClampNeg (v47_3 - 1)))))), (4, .int (w47_f_t_way (Int32.toNatClampNeg (v47_3 - 1)))), (0, .ref a_t), (1, .int p1), (3, .int v47_3)]) hx hb dX11_walk_138 hl (k := 5) rfl rfl (by decide) rfl (fun ls hl => ?_)
                    refine lv_aload_n hx hb dX11_walk_141 rfl (lv_at hl 4 rfl) ?_
                    refine va_get (D := G) (ci := 8) (v := .ref a_t_way) (C := RX11) (T := TX11) (N := 22) hx hb hts i_X11 hown hK hP 0 rfl rfl 8 (by decide) l_26 (fun _ h9 => h9) rfl dX11_walk_142 ?_
                    refine lv_iload_n hx hb dX11_walk_145 rfl (lv_at hl 6 rfl) ?_
                    refine lv_iload hx hb dX11_walk_146 (lv_at hl 1 rfl) ?_
                    obtain ⟨g148, hm⟩ := gd_some hm
                    refine va_iast hx hb hK hP hD hS 3 0 rfl rfl (kin_ok g148) dX11_walk_148 (fun H locs hP hD hS => ?_)
                    have hP : va_P G vwCl [(a_t, .inr (8, [.int k_t_knots, .ref a_t_now, .int k_t_readKnots, .ref a_t_text, .int k_t_length, .ref a_t_covers, .int k_t_reached, .ref a_t_order, .ref a_t_way, .ref a_t_tried, .int k_t_acts, .int k_t_next, .ref a_t_row, .ref a_t_lids, .ref a_t_shown, .int k_t_seen, .ref a_t_seenKnot, .ref a_t_seenLid, .ref a_t_seenHad, .long k_t_seed, .ref a_t_isKept, .ref a_t_kept])), (a_t_now, .inl (cI, 100, .inl f_t_now)), (a_t_order, .inl (cI, 8, .inl (upd w47_f_t_order (Int32.toNatClampNeg r101) v47_2))), (a_t_way, .inl (cI, 8, .inl (upd w47_f_t_way (Int32.toNatClampNeg v47_3) r101))), (a_t_tried, .inl (cI, 8, .inl (upd w47_f_t_tried (Int32.toNatClampNeg (w47_f_t_way (Int32.toNatClampNeg (v47_3 - 1)))) ((w47_f_t_tried (Int32.toNatClampNeg (w47_f_t_way (Int32.toNatClampNeg (v47_3 - 1))))) + 1))))] H := hP
                    have hD : va_D A [(a_t, .inr (8, [.int k_t_knots, .ref a_t_now, .int k_t_readKnots, .ref a_t_text, .int k_t_length, .ref a_t_covers, .int k_t_reached, .ref a_t_order, .ref a_t_way, .ref a_t_tried, .int k_t_acts, .int k_t_next, .ref a_t_row, .ref a_t_lids, .ref a_t_shown, .int k_t_seen, .ref a_t_seenKnot, .ref a_t_seenLid, .ref a_t_seenHad, .long k_t_seed, .ref a_t_isKept, .ref a_t_kept])), (a_t_now, .inl (cI, 100, .inl f_t_now)), (a_t_order, .inl (cI, 8, .inl (upd w47_f_t_order (Int32.toNatClampNeg r101) v47_2))), (a_t_way, .inl (cI, 8, .inl (upd w47_f_t_way (Int32.toNatClampNeg v47_3) r101))), (a_t_tried, .inl (cI, 8, .inl (upd w47_f_t_tried (Int32.toNatClampNeg (w47_f_t_way (Int32.toNatClampNeg (v47_3 - 1)))) ((w47_f_t_tried (Int32.toNatClampNeg (w47_f_t_way (Int32.toNatClampNeg (v47_3 - 1))))) + 1))))] := hD
                    refine lv_iinc (v := v47_3 + 1) (lv' := [(3, .int (v47_3 + 1)), (2, .int (v47_2 + 1)), (6, .int r101), (5, .int (w47_f_t_tried (Int32.toNatClampNeg (w47_f_t_way (Int32.toNatClampNeg (v47_3 - 1)))))), (4, .int (w47_f_t_way (Int32.toNatClampNeg (v47_3 - 1)))), (0, .ref a_t), (1, .int p1)]) hx hb dX11_walk_149 hl (k := 6) rfl rfl (by decide) rfl (fun ls hl => ?_)
                    refine lv_goto (tgt := 47) hx hb dX11_walk_152 (by decide) ?_
                    exact ih47 (v47_2 + 1) (v47_3 + 1) (upd w47_f_t_order (Int32.toNatClampNeg r101) v47_2) (upd w47_f_t_way (Int32.toNatClampNeg v47_3) r101) (upd w47_f_t_tried (Int32.toNatClampNeg (w47_f_t_way (Int32.toNatClampNeg (v47_3 - 1)))) ((w47_f_t_tried (Int32.toNatClampNeg (w47_f_t_way (Int32.toNatClampNeg (v47_3 - 1))))) + 1)) _ _ _ hP hD hS (lv_sub hl [5, 6, 1, 0] rfl) hm
              · rw [if_pos c77] at hm
                refine lv_iinc (v := v47_3 + (-1)) (lv' := [(3, .int (v47_3 + (-1))), (5, .int (w47_f_t_tried (Int32.toNatClampNeg (w47_f_t_way (Int32.toNatClampNeg (v47_3 - 1)))))), (4, .int (w47_f_t_way (Int32.toNatClampNeg (v47_3 - 1)))), (0, .ref a_t), (1, .int p1), (2, .int v47_2)]) hx hb dX11_walk_80 hl (k := 5) rfl rfl (by decide) rfl (fun ls hl => ?_)
                refine lv_goto (tgt := 152) hx hb dX11_walk_83 (by decide) ?_
                refine lv_goto (tgt := 47) hx hb dX11_walk_152 (by decide) ?_
                exact ih47 v47_2 (v47_3 + (-1)) w47_f_t_order w47_f_t_way w47_f_t_tried _ _ _ hP hD hS (lv_sub hl [3, 4, 5, 0] rfl) hm
        exact h47 kFU 1 1 (upd w2_f_t_order (Int32.toNatClampNeg 0) 0) (upd f_t_way (Int32.toNatClampNeg 0) 0) w2_f_t_tried _ _ _ hP hD hS (lv_sub hl [2, 3, 1, 0] rfl) hm
      refine lv_icmp_ge (tgt := 29) hx hb dX11_walk_5 (by decide) (fun c5 => ?_) (fun c5 => ?_)
      · rw [if_pos c5] at hm
        exact h29 _ _ _ hP hD hS (lv_sub hl [0, 1] rfl) hm
      · rw [if_neg c5] at hm
        refine lv_aload_n hx hb dX11_walk_8 rfl (lv_at hl 0 rfl) ?_
        refine va_get (D := G) (ci := 8) (v := .ref a_t_order) (C := RX11) (T := TX11) (N := 22) hx hb hts i_X11 hown hK hP 0 rfl rfl 7 (by decide) l_23 (fun _ h9 => h9) rfl dX11_walk_9 ?_
        refine lv_iload_n hx hb dX11_walk_12 rfl (lv_at hl 2 rfl) ?_
        refine lv_bipush (v := (-9)) hx hb dX11_walk_13 (by decide) ?_
        obtain ⟨g15, hm⟩ := gd_some hm
        refine va_iast hx hb hK hP hD hS 2 0 rfl rfl (kin_ok g15) dX11_walk_15 (fun H locs hP hD hS => ?_)
        have hP : va_P G vwCl [(a_t, .inr (8, [.int k_t_knots, .ref a_t_now, .int k_t_readKnots, .ref a_t_text, .int k_t_length, .ref a_t_covers, .int k_t_reached, .ref a_t_order, .ref a_t_way, .ref a_t_tried, .int k_t_acts, .int k_t_next, .ref a_t_row, .ref a_t_lids, .ref a_t_shown, .int k_t_seen, .ref a_t_seenKnot, .ref a_t_seenLid, .ref a_t_seenHad, .long k_t_seed, .ref a_t_isKept, .ref a_t_kept])), (a_t_now, .inl (cI, 100, .inl f_t_now)), (a_t_order, .inl (cI, 8, .inl (upd w2_f_t_order (Int32.toNatClampNeg v2_2) (-9)))), (a_t_way, .inl (cI, 8, .inl f_t_way)), (a_t_tried, .inl (cI, 8, .inl w2_f_t_tried))] H := hP
        have hD : va_D A [(a_t, .inr (8, [.int k_t_knots, .ref a_t_now, .int k_t_readKnots, .ref a_t_text, .int k_t_length, .ref a_t_covers, .int k_t_reached, .ref a_t_order, .ref a_t_way, .ref a_t_tried, .int k_t_acts, .int k_t_next, .ref a_t_row, .ref a_t_lids, .ref a_t_shown, .int k_t_seen, .ref a_t_seenKnot, .ref a_t_seenLid, .ref a_t_seenHad, .long k_t_seed, .ref a_t_isKept, .ref a_t_kept])), (a_t_now, .inl (cI, 100, .inl f_t_now)), (a_t_order, .inl (cI, 8, .inl (upd w2_f_t_order (Int32.toNatClampNeg v2_2) (-9)))), (a_t_way, .inl (cI, 8, .inl f_t_way)), (a_t_tried, .inl (cI, 8, .inl w2_f_t_tried))] := hD
        refine lv_aload_n hx hb dX11_walk_16 rfl (lv_at hl 0 rfl) ?_
        refine va_get (D := G) (ci := 8) (v := .ref a_t_tried) (C := RX11) (T := TX11) (N := 22) hx hb hts i_X11 hown hK hP 0 rfl rfl 9 (by decide) l_29 (fun _ h9 => h9) rfl dX11_walk_17 ?_
        refine lv_iload_n hx hb dX11_walk_20 rfl (lv_at hl 2 rfl) ?_
        refine lv_iconst (v := 0) hx hb dX11_walk_21 (by decide) ?_
        obtain ⟨g22, hm⟩ := gd_some hm
        refine va_iast hx hb hK hP hD hS 4 0 rfl rfl (kin_ok g22) dX11_walk_22 (fun H locs hP hD hS => ?_)
        have hP : va_P G vwCl [(a_t, .inr (8, [.int k_t_knots, .ref a_t_now, .int k_t_readKnots, .ref a_t_text, .int k_t_length, .ref a_t_covers, .int k_t_reached, .ref a_t_order, .ref a_t_way, .ref a_t_tried, .int k_t_acts, .int k_t_next, .ref a_t_row, .ref a_t_lids, .ref a_t_shown, .int k_t_seen, .ref a_t_seenKnot, .ref a_t_seenLid, .ref a_t_seenHad, .long k_t_seed, .ref a_t_isKept, .ref a_t_kept])), (a_t_now, .inl (cI, 100, .inl f_t_now)), (a_t_order, .inl (cI, 8, .inl (upd w2_f_t_order (Int32.toNatClampNeg v2_2) (-9)))), (a_t_way, .inl (cI, 8, .inl f_t_way)), (a_t_tried, .inl (cI, 8, .inl (upd w2_f_t_tried (Int32.toNatClampNeg v2_2) 0)))] H := hP
        have hD : va_D A [(a_t, .inr (8, [.int k_t_knots, .ref a_t_now, .int k_t_readKnots, .ref a_t_text, .int k_t_length, .ref a_t_covers, .int k_t_reached, .ref a_t_order, .ref a_t_way, .ref a_t_tried, .int k_t_acts, .int k_t_next, .ref a_t_row, .ref a_t_lids, .ref a_t_shown, .int k_t_seen, .ref a_t_seenKnot, .ref a_t_seenLid, .ref a_t_seenHad, .long k_t_seed, .ref a_t_isKept, .ref a_t_kept])), (a_t_now, .inl (cI, 100, .inl f_t_now)), (a_t_order, .inl (cI, 8, .inl (upd w2_f_t_order (Int32.toNatClampNeg v2_2) (-9)))), (a_t_way, .inl (cI, 8, .inl f_t_way)), (a_t_tried, .inl (cI, 8, .inl (upd w2_f_t_tried (Int32.toNatClampNeg v2_2) 0)))] := hD
        refine lv_iinc (v := v2_2 + 1) (lv' := [(2, .int (v2_2 + 1)), (0, .ref a_t), (1, .int p1)]) hx hb dX11_walk_23 hl (k := 2) rfl rfl (by decide) rfl (fun ls hl => ?_)
        refine lv_goto (tgt := 2) hx hb dX11_walk_26 (by decide) ?_
        exact ih2 (v2_2 + 1) (upd w2_f_t_order (Int32.toNatClampNeg v2_2) (-9)) (upd w2_f_t_tried (Int32.toNatClampNeg v2_2) 0) _ _ _ hP hD hS (lv_sub hl [1, 2, 0] rfl) hm
  exact h2 kFU 0 f_t_order f_t_tried _ _ _ hP hD hS (lv_sub hl [1, 2, 0] rfl) hm
theorem hd_X11_walk : yX11_walk.cls = RX11 ∧ yX11_walk.cls ≠ "java/lang/invoke/MethodHandle" ∧ yX11_walk.cls ≠ "java/lang/invoke/VarHandle" ∧ (parseMethodDescriptor yX11_walk.desc).map (fun d => d.parameters.length) = some 1 := by decide +kernel
/-! CoverOrderModel halfOf -/
set_option maxRecDepth 100000 in
set_option maxHeartbeats 4000000 in
theorem c_X11_halfOf (l : Launch) (G : va_G) (cI cZ cE : ClassId) (a_t a_t_now a_t_text a_t_covers a_t_order a_t_way a_t_tried a_t_row a_t_lids a_t_shown a_t_seenKnot a_t_seenLid a_t_seenHad a_t_isKept a_t_kept : Nat) (k_t_knots : Int32) (k_t_readKnots : Int32) (k_t_length : Int32) (k_t_reached : Int32) (k_t_acts : Int32) (k_t_next : Int32) (k_t_seen : Int32) (k_t_seed : Int64) (f_t_now : Nat → Int32) (f_t_order : Nat → Int32) (p1 : Int32) (p2 : Int32) (R : Int32) (hm : mX11_halfOf f_t_now f_t_order p1 p2 = some R) : kM l yX11_halfOf wsX11_halfOf { frames := 1, cells := 0, slots := 0, locals := 22 } G cI cZ cE [.ref a_t, .int p1, .int p2] [(a_t, .inr (8, [.int k_t_knots, .ref a_t_now, .int k_t_readKnots, .ref a_t_text, .int k_t_length, .ref a_t_covers, .int k_t_reached, .ref a_t_order, .ref a_t_way, .ref a_t_tried, .int k_t_acts, .int k_t_next, .ref a_t_row, .ref a_t_lids, .ref a_t_shown, .int k_t_seen, .ref a_t_seenKnot, .ref a_t_seenLid, .ref a_t_seenHad, .long k_t_seed, .ref a_t_isKept, .ref a_t_kept])), (a_t_now, .inl (cI, 100, .inl f_t_now)), (a_t_order, .inl (cI, 8, .inl f_t_order))] [(a_t, .inr (8, [.int k_t_knots, .ref a_t_now, .int k_t_readKnots, .ref a_t_text, .int k_t_length, .ref a_t_covers, .int k_t_reached, .ref a_t_order, .ref a_t_way, .ref a_t_tried, .int k_t_acts, .int k_t_next, .ref a_t_row, .ref a_t_lids, .ref a_t_shown, .int k_t_seen, .ref a_t_seenKnot, .ref a_t_seenLid, .ref a_t_seenHad, .long k_t_seed, .ref a_t_isKept, .ref a_t_kept])), (a_t_now, .inl (cI, 100, .inl f_t_now)), (a_t_order, .inl (cI, 8, .inl f_t_order))] (some (.int R)) := by
  refine kM_of cX11_halfOf 8 (some .int) RX11 (by decide) rfl rfl (Nat.le_of_ble_eq_true rfl) ?_
  intro p e s m below meth c A ls X hA hP hD hS hl
  have hx := X.1.1
  have hb := X.1.2.1
  have hts := X.1.2.2.2.2
  have hown := X.1.2.2.2.1
  have hK := X.2.2.2.1
  have l_23 : (.fieldLink RX11 23 "CoverOrderModel" "order" "[I" : Cond).before _ s = true := hts _ (List.mem_of_getElem? (i := 1) (by decide +kernel))
  have i_X11 : ∀ w ∈ u_ws RX11 TX11 22, w ∈ wsX11_halfOf := k_in _ [19, 20, 21, 22, 23, 24, 25, 26, 27, 28, 29, 30, 31, 32, 33, 34, 35, 36, 37, 38, 39, 40] (by decide +kernel)
  have hl : lv_has ls 8 [(0, .ref a_t), (1, .int p1), (2, .int p2)] := hl
  rw [mX11_halfOf] at hm
  refine lv_iload_n hx hb dX11_halfOf_0 rfl (lv_at hl 2 rfl) ?_
  refine lv_if_eq (tgt := 15) hx hb dX11_halfOf_1 (by decide) (fun c1 => ?_) (fun c1 => ?_)
  · rw [if_pos c1] at hm
    refine lv_bipush (v := (-9)) hx hb dX11_halfOf_15 (by decide) ?_
    have hm := Option.some.inj hm
    subst hm
    exact k_iret (v := (-9)) X rfl dX11_halfOf_17 hP hD hS
  · rw [if_neg c1] at hm
    refine lv_aload_n hx hb dX11_halfOf_4 rfl (lv_at hl 0 rfl) ?_
    refine va_get (D := G) (ci := 8) (v := .ref a_t_order) (C := RX11) (T := TX11) (N := 22) hx hb hts i_X11 hown hK hP 0 rfl rfl 7 (by decide) l_23 (fun _ h9 => h9) rfl dX11_halfOf_5 ?_
    refine lv_iload_n hx hb dX11_halfOf_8 rfl (lv_at hl 2 rfl) ?_
    obtain ⟨g9, hm⟩ := gd_some hm
    refine va_iald hx hb hK hP 2 0 rfl rfl (kin_ok g9) dX11_halfOf_9 ?_
    refine lv_bipush (v := (-9)) hx hb dX11_halfOf_10 (by decide) ?_
    refine lv_icmp_ne (tgt := 18) hx hb dX11_halfOf_12 (by decide) (fun c12 => ?_) (fun c12 => ?_)
    · rw [if_neg c12] at hm
      refine lv_iconst (v := 1) hx hb dX11_halfOf_18 (by decide) ?_
      refine lv_iload_n hx hb dX11_halfOf_19 rfl (lv_at hl 2 rfl) ?_
      refine lv_ishl hx hb dX11_halfOf_20 ?_
      refine lv_istore_n (lv' := [(3, .int (1 <<< (p2 &&& 31))), (0, .ref a_t), (1, .int p1), (2, .int p2)]) hx hb dX11_halfOf_21 rfl hl (by decide) rfl (fun ls hl => ?_)
      refine lv_bipush (v := (-9)) hx hb dX11_halfOf_22 (by decide) ?_
      refine lv_istore (lv' := [(4, .int (-9)), (3, .int (1 <<< (p2 &&& 31))), (0, .ref a_t), (1, .int p1), (2, .int p2)]) hx hb dX11_halfOf_24 hl (by decide) rfl (fun ls hl => ?_)
      refine lv_iconst (v := 0) hx hb dX11_halfOf_26 (by decide) ?_
      refine lv_istore (lv' := [(5, .int 0), (4, .int (-9)), (3, .int (1 <<< (p2 &&& 31))), (0, .ref a_t), (1, .int p1), (2, .int p2)]) hx hb dX11_halfOf_27 hl (by decide) rfl (fun ls hl => ?_)
      have h29 : ∀ (n29 : Nat), ∀ (v29_3 : Int32) (v29_4 : Int32) (v29_5 : Int32) (H : Heap) (locs : List Loc) (ls : Array Slot), va_P G vwCl [(a_t, .inr (8, [.int k_t_knots, .ref a_t_now, .int k_t_readKnots, .ref a_t_text, .int k_t_length, .ref a_t_covers, .int k_t_reached, .ref a_t_order, .ref a_t_way, .ref a_t_tried, .int k_t_acts, .int k_t_next, .ref a_t_row, .ref a_t_lids, .ref a_t_shown, .int k_t_seen, .ref a_t_seenKnot, .ref a_t_seenLid, .ref a_t_seenHad, .long k_t_seed, .ref a_t_isKept, .ref a_t_kept])), (a_t_now, .inl (cI, 100, .inl f_t_now)), (a_t_order, .inl (cI, 8, .inl f_t_order))] H → va_D A [(a_t, .inr (8, [.int k_t_knots, .ref a_t_now, .int k_t_readKnots, .ref a_t_text, .int k_t_length, .ref a_t_covers, .int k_t_reached, .ref a_t_order, .ref a_t_way, .ref a_t_tried, .int k_t_acts, .int k_t_next, .ref a_t_row, .ref a_t_lids, .ref a_t_shown, .int k_t_seen, .ref a_t_seenKnot, .ref a_t_seenLid, .ref a_t_seenHad, .long k_t_seed, .ref a_t_isKept, .ref a_t_kept])), (a_t_now, .inl (cI, 100, .inl f_t_now)), (a_t_order, .inl (cI, 8, .inl f_t_order))] → va_S A s.heap H locs → lv_has ls 8 [(0, .ref a_t), (1, .int p1), (2, .int p2), (3, .int v29_3), (4, .int v29_4), (5, .int v29_5)] → mX11_halfOf_L29 f_t_now f_t_order p1 p2 n29 v29_3 v29_4 v29_5 = some R → W p l e { frames := 1, cells := 0, slots := 0, locals := 22 } s m ([.ref a_t, .int p1, .int p2] : List Value).toArray below meth c H locs 0 0 (kQ below G [(a_t, .inr (8, [.int k_t_knots, .ref a_t_now, .int k_t_readKnots, .ref a_t_text, .int k_t_length, .ref a_t_covers, .int k_t_reached, .ref a_t_order, .ref a_t_way, .ref a_t_tried, .int k_t_acts, .int k_t_next, .ref a_t_row, .ref a_t_lids, .ref a_t_shown, .int k_t_seen, .ref a_t_seenKnot, .ref a_t_seenLid, .ref a_t_seenHad, .long k_t_seed, .ref a_t_isKept, .ref a_t_kept])), (a_t_now, .inl (cI, 100, .inl f_t_now)), (a_t_order, .inl (cI, 8, .inl f_t_order))] (some (.int R)) A ([.ref a_t, .int p1, .int p2] : List Value).toArray s) (F0 m 29 ls []) := by
        intro n29
        induction n29 with
        | zero => intro v29_3 v29_4 v29_5 H locs ls hP hD hS hl hm; rw [mX11_halfOf_L29] at hm; cases hm
        | succ n29 ih29 =>
          intro v29_3 v29_4 v29_5 H locs ls hP hD hS hl hm
          rw [mX11_halfOf_L29] at hm
          refine lv_iload hx hb dX11_halfOf_29 (lv_at hl 5 rfl) ?_
          refine lv_bipush (v := 8) hx hb dX11_halfOf_31 (by decide) ?_
          refine lv_icmp_ge (tgt := 162) hx hb dX11_halfOf_33 (by decide) (fun c33 => ?_) (fun c33 => ?_)
          · rw [if_pos c33] at hm
            refine lv_iload hx hb dX11_halfOf_162 (lv_at hl 4 rfl) ?_
            have hm := Option.some.inj hm
            subst hm
            exact k_iret (v := v29_4) X rfl dX11_halfOf_164 hP hD hS
          · rw [if_neg c33] at hm
            refine lv_iconst (v := 0) hx hb dX11_halfOf_36 (by decide) ?_
            refine lv_istore (lv' := [(6, .int 0), (0, .ref a_t), (1, .int p1), (2, .int p2), (3, .int v29_3), (4, .int v29_4), (5, .int v29_5)]) hx hb dX11_halfOf_37 hl (by decide) rfl (fun ls hl => ?_)
            have h39 : ∀ (n39 : Nat), ∀ (v39_3 : Int32) (v39_4 : Int32) (v39_6 : Int32) (H : Heap) (locs : List Loc) (ls : Array Slot), va_P G vwCl [(a_t, .inr (8, [.int k_t_knots, .ref a_t_now, .int k_t_readKnots, .ref a_t_text, .int k_t_length, .ref a_t_covers, .int k_t_reached, .ref a_t_order, .ref a_t_way, .ref a_t_tried, .int k_t_acts, .int k_t_next, .ref a_t_row, .ref a_t_lids, .ref a_t_shown, .int k_t_seen, .ref a_t_seenKnot, .ref a_t_seenLid, .ref a_t_seenHad, .long k_t_seed, .ref a_t_isKept, .ref a_t_kept])), (a_t_now, .inl (cI, 100, .inl f_t_now)), (a_t_order, .inl (cI, 8, .inl f_t_order))] H → va_D A [(a_t, .inr (8, [.int k_t_knots, .ref a_t_now, .int k_t_readKnots, .ref a_t_text, .int k_t_length, .ref a_t_covers, .int k_t_reached, .ref a_t_order, .ref a_t_way, .ref a_t_tried, .int k_t_acts, .int k_t_next, .ref a_t_row, .ref a_t_lids, .ref a_t_shown, .int k_t_seen, .ref a_t_seenKnot, .ref a_t_seenLid, .ref a_t_seenHad, .long k_t_seed, .ref a_t_isKept, .ref a_t_kept])), (a_t_now, .inl (cI, 100, .inl f_t_now)), (a_t_order, .inl (cI, 8, .inl f_t_order))] → va_S A s.heap H locs → lv_has ls 8 [(0, .ref a_t), (1, .int p1), (2, .int p2), (3, .int v39_3), (4, .int v39_4), (5, .int v29_5), (6, .int v39_6)] → mX11_halfOf_L39 (mX11_halfOf_L29 f_t_now f_t_order p1 p2 n29) f_t_now f_t_order p1 p2 v29_5 n39 v39_3 v39_4 v39_6 = some R → W p l e { frames := 1, cells := 0, slots := 0, locals := 22 } s m ([.ref a_t, .int p1, .int p2] : List Value).toArray below meth c H locs 0 0 (kQ below G [(a_t, .inr (8, [.int k_t_knots, .ref a_t_now, .int k_t_readKnots, .ref a_t_text, .int k_t_length, .ref a_t_covers, .int k_t_reached, .ref a_t_order, .ref a_t_way, .ref a_t_tried, .int k_t_acts, .int k_t_next, .ref a_t_row, .ref a_t_lids, .ref a_t_shown, .int k_t_seen, .ref a_t_seenKnot, .ref a_t_seenLid, .ref a_t_seenHad, .long k_t_seed, .ref a_t_isKept, .ref a_t_kept])), (a_t_now, .inl (cI, 100, .inl f_t_now)), (a_t_order, .inl (cI, 8, .inl f_t_order))] (some (.int R)) A ([.ref a_t, .int p1, .int p2] : List Value).toArray s) (F0 m 39 ls []) := by
              intro n39
              induction n39 with
              | zero => intro v39_3 v39_4 v39_6 H locs ls hP hD hS hl hm; rw [mX11_halfOf_L39] at hm; cases hm
              | succ n39 ih39 =>
                intro v39_3 v39_4 v39_6 H locs ls hP hD hS hl hm
                rw [mX11_halfOf_L39] at hm
                refine lv_iload hx hb dX11_halfOf_39 (lv_at hl 6 rfl) ?_
                refine lv_aload_n hx hb dX11_halfOf_41 rfl (lv_at hl 0 rfl) ?_
                refine lv_iload_n hx hb dX11_halfOf_42 rfl (lv_at hl 1 rfl) ?_
                obtain ⟨r43, hc43, hm⟩ := kbind hm
                refine kcV0 (st1 := [.int r43, .int v39_6]) X hA (c_X11_many l G cI cZ cE a_t a_t_now a_t_text a_t_covers a_t_order a_t_way a_t_tried a_t_row a_t_lids a_t_shown a_t_seenKnot a_t_seenLid a_t_seenHad a_t_isKept a_t_kept k_t_knots k_t_readKnots k_t_length k_t_reached k_t_acts k_t_next k_t_seen k_t_seed f_t_now p1 r43 hc43) (cwV 1 hts gX11_halfOf_X11_many rfl rfl rfl hd_X11_many ⟨Nat.le_of_ble_eq_true rfl, Nat.le_of_ble_eq_true rfl⟩) 0 8 rfl rfl hl.1 dX11_halfOf_43 hP hD hS [0, 1] rfl rfl rfl [.int v39_6] rfl (Nat.le_of_ble_eq_true rfl) rfl ⟨Nat.zero_le _, Nat.zero_le _⟩ (fun H locs hP hD hS => ?_)
                refine lv_icmp_ge (tgt := 156) hx hb dX11_halfOf_46 (by decide) (fun c46 => ?_) (fun c46 => ?_)
                · rw [if_pos c46] at hm
                  refine lv_iinc (v := v29_5 + 1) (lv' := [(5, .int (v29_5 + 1)), (0, .ref a_t), (1, .int p1), (2, .int p2), (3, .int v39_3), (4, .int v39_4), (6, .int v39_6)]) hx hb dX11_halfOf_156 hl (k := 5) rfl rfl (by decide) rfl (fun ls hl => ?_)
                  refine lv_goto (tgt := 29) hx hb dX11_halfOf_159 (by decide) ?_
                  exact ih29 v39_3 v39_4 (v29_5 + 1) _ _ _ hP hD hS (lv_sub hl [1, 2, 3, 4, 5, 0] rfl) hm
                · rw [if_neg c46] at hm
                  refine lv_aload_n hx hb dX11_halfOf_49 rfl (lv_at hl 0 rfl) ?_
                  refine lv_iload_n hx hb dX11_halfOf_50 rfl (lv_at hl 1 rfl) ?_
                  refine lv_iload hx hb dX11_halfOf_51 (lv_at hl 6 rfl) ?_
                  obtain ⟨r53, hc53, hm⟩ := kbind hm
                  refine kcV0 (st1 := [.int r53]) X hA (c_X11_fromOf l G cI cZ cE a_t a_t_now a_t_text a_t_covers a_t_order a_t_way a_t_tried a_t_row a_t_lids a_t_shown a_t_seenKnot a_t_seenLid a_t_seenHad a_t_isKept a_t_kept k_t_knots k_t_readKnots k_t_length k_t_reached k_t_acts k_t_next k_t_seen k_t_seed f_t_now p1 v39_6 r53 hc53) (cwV 2 hts gX11_halfOf_X11_fromOf rfl rfl rfl hd_X11_fromOf ⟨Nat.le_of_ble_eq_true rfl, Nat.le_of_ble_eq_true rfl⟩) 0 8 rfl rfl hl.1 dX11_halfOf_53 hP hD hS [0, 1] rfl rfl rfl [] rfl (Nat.le_of_ble_eq_true rfl) rfl ⟨Nat.zero_le _, Nat.zero_le _⟩ (fun H locs hP hD hS => ?_)
                  refine lv_istore (lv' := [(7, .int r53), (0, .ref a_t), (1, .int p1), (2, .int p2), (3, .int v39_3), (4, .int v39_4), (5, .int v29_5), (6, .int v39_6)]) hx hb dX11_halfOf_56 hl (by decide) rfl (fun ls hl => ?_)
                  refine lv_iload_n hx hb dX11_halfOf_58 rfl (lv_at hl 4 rfl) ?_
                  refine lv_aload_n hx hb dX11_halfOf_59 rfl (lv_at hl 1 rfl) ?_
                  refine lv_iload_n hx hb dX11_halfOf_60 rfl (lv_at hl 2 rfl) ?_
                  refine lv_iload hx hb dX11_halfOf_61 (lv_at hl 7 rfl) ?_
                  obtain ⟨r63, hc63, hm⟩ := kbind hm
                  refine kcV0 (st1 := [.int r63, .int v39_3]) X hA (c_X11_toOf l G cI cZ cE a_t a_t_now a_t_text a_t_covers a_t_order a_t_way a_t_tried a_t_row a_t_lids a_t_shown a_t_seenKnot a_t_seenLid a_t_seenHad a_t_isKept a_t_kept k_t_knots k_t_readKnots k_t_length k_t_reached k_t_acts k_t_next k_t_seen k_t_seed f_t_now p1 v39_6 r63 hc63) (cwV 2 hts gX11_halfOf_X11_toOf rfl rfl rfl hd_X11_toOf ⟨Nat.le_of_ble_eq_true rfl, Nat.le_of_ble_eq_true rfl⟩) 0 8 rfl rfl hl.1 dX11_halfOf_63 hP hD hS [0, 1] rfl rfl rfl [.int v39_3] rfl (Nat.le_of_ble_eq_true rfl) rfl ⟨Nat.zero_le _, Nat.zero_le _⟩ (fun H locs hP hD hS => ?_)
                  refine kcS0 (st1 := [.int (bI (mX11_has v39_3 r63))]) X hA (c_X11_has l G cI cZ cE v39_3 r63 _ rfl) (va_cwS 2 hts gX11_halfOf_X11_has rfl rfl rfl hd_X11_has ⟨Nat.le_of_ble_eq_true rfl, Nat.le_of_ble_eq_true rfl⟩) hl.1 dX11_halfOf_66 hP hD hS [] rfl rfl rfl [] rfl (Nat.le_of_ble_eq_true rfl) rfl ⟨Nat.zero_le _, Nat.zero_le _⟩ (fun H locs hP hD hS => ?_)
                  refine lv_if_eq (tgt := 150) hx hb dX11_halfOf_69 (by decide) (fun c69 => ?_) (fun c69 => ?_)
                  · have c69 := kb0 c69
                    rw [if_neg c69] at hm
                    refine lv_iinc (v := v39_6 + 1) (lv' := [(6, .int (v39_6 + 1)), (7, .int r53), (0, .ref a_t), (1, .int p1), (2, .int p2), (3, .int v39_3), (4, .int v39_4), (5, .int v29_5)]) hx hb dX11_halfOf_150 hl (k := 7) rfl rfl (by decide) rfl (fun ls hl => ?_)
                    refine lv_goto (tgt := 39) hx hb dX11_halfOf_153 (by decide) ?_
                    exact ih39 v39_3 v39_4 (v39_6 + 1) _ _ _ hP hD hS (lv_sub hl [2, 3, 4, 5, 6, 7, 0] rfl) hm
                  · have c69 := kb1 c69
                    rw [if_pos c69] at hm
                    refine lv_aload_n hx hb dX11_halfOf_72 rfl (lv_at hl 1 rfl) ?_
                    refine va_get (D := G) (ci := 8) (v := .ref a_t_order) (C := RX11) (T := TX11) (N := 22) hx hb hts i_X11 hown hK hP 0 rfl rfl 7 (by decide) l_23 (fun _ h9 => h9) rfl dX11_halfOf_73 ?_
                    refine lv_iload hx hb dX11_halfOf_76 (lv_at hl 0 rfl) ?_
                    obtain ⟨g78, hm⟩ := gd_some hm
                    refine va_iald hx hb hK hP 2 0 rfl rfl (kin_ok g78) dX11_halfOf_78 ?_
                    refine lv_bipush (v := (-9)) hx hb dX11_halfOf_79 (by decide) ?_
                    refine lv_icmp_eq (tgt := 150) hx hb dX11_halfOf_81 (by decide) (fun c81 => ?_) (fun c81 => ?_)
                    · rw [if_pos c81] at hm
                      refine lv_iinc (v := v39_6 + 1) (lv' := [(6, .int (v39_6 + 1)), (7, .int r53), (0, .ref a_t), (1, .int p1), (2, .int p2), (3, .int v39_3), (4, .int v39_4), (5, .int v29_5)]) hx hb dX11_halfOf_150 hl (k := 7) rfl rfl (by decide) rfl (fun ls hl => ?_)
                      refine lv_goto (tgt := 39) hx hb dX11_halfOf_153 (by decide) ?_
                      exact ih39 v39_3 v39_4 (v39_6 + 1) _ _ _ hP hD hS (lv_sub hl [2, 3, 4, 5, 6, 7, 0] rfl) hm
                    · rw [if_neg c81] at hm
                      refine lv_iload hx hb dX11_halfOf_84 (lv_at hl 0 rfl) ?_
                      refine lv_iload_n hx hb dX11_halfOf_86 rfl (lv_at hl 3 rfl) ?_
                      have h121 : ∀ (s121_0 : Int32) (H : Heap) (locs : List Loc) (ls : Array Slot), va_P G vwCl [(a_t, .inr (8, [.int k_t_knots, .ref a_t_now, .int k_t_readKnots, .ref a_t_text, .int k_t_length, .ref a_t_covers, .int k_t_reached, .ref a_t_order, .ref a_t_way, .ref a_t_tried, .int k_t_acts, .int k_t_next, .ref a_t_row, .ref a_t_lids, .ref a_t_shown, .int k_t_seen, .ref a_t_seenKnot, .ref a_t_seenLid, .ref a_t_seenHad, .long k_t_seed, .ref a_t_isKept, .ref a_t_kept])), (a_t_now, .inl (cI, 100, .inl f_t_now)), (a_t_order, .inl (cI, 8, .inl f_t_order))] H → va_D A [(a_t, .inr (8, [.int k_t_knots, .ref a_t_now, .int k_t_readKnots, .ref a_t_text, .int k_t_length, .ref a_t_covers, .int k_t_reached, .ref a_t_order, .ref a_t_way, .ref a_t_tried, .int k_t_acts, .int k_t_next, .ref a_t_row, .ref a_t_lids, .ref a_t_shown, .int k_t_seen, .ref a_t_seenKnot, .ref a_t_seenLid, .ref a_t_seenHad, .long k_t_seed, .ref a_t_isKept, .ref a_t_kept])), (a_t_now, .inl (cI, 100, .inl f_t_now)), (a_t_order, .inl (cI, 8, .inl f_t_order))] → va_S A s.heap H locs → lv_has ls 8 [(0, .ref a_t), (1, .int p1), (2, .int p2), (3, .int v39_3), (5, .int v29_5), (6, .int v39_6), (7, .int r53)] → mX11_halfOf_J121 (mX11_halfOf_L39 (mX11_halfOf_L29 f_t_now f_t_order p1 p2 n29) f_t_now f_t_order p1 p2 v29_5 n39) f_t_order p2 v39_3 v39_6 r53 s121_0 = some R → W p l e { frames := 1, cells := 0, slots := 0, locals := 22 } s m ([.ref a_t, .int p1, .int p2] : List Value).toArray below meth c H locs 0 0 (kQ below G [(a_t, .inr (8, [.int k_t_knots, .ref a_t_now, .int k_t_readKnots, .ref a_t_text, .int k_t_length, .ref a_t_covers, .int k_t_reached, .ref a_t_order, .ref a_t_way, .ref a_t_tried, .int k_t_acts, .int k_t_next, .ref a_t_row, .ref a_t_lids, .ref a_t_shown, .int k_t_seen, .ref a_t_seenKnot, .ref a_t_seenLid, .ref a_t_seenHad, .long k_t_seed, .ref a_t_isKept, .ref a_t_kept])), (a_t_now, .inl (cI, 100, .inl f_t_now)), (a_t_order, .inl (cI, 8, .inl f_t_order))] (some (.int R)) A ([.ref a_t, .int p1, .int p2] : List Value).toArray s) (F0 m 121 ls [.int s121_0]) := by
                        intro s121_0 H locs ls hP hD hS hl hm
                        rw [mX11_halfOf_J121] at hm
                        refine lv_istore (lv' := [(4, .int s121_0), (0, .ref a_t), (1, .int p1), (2, .int p2), (3, .int v39_3), (5, .int v29_5), (6, .int v39_6), (7, .int r53)]) hx hb dX11_halfOf_121 hl (by decide) rfl (fun ls hl => ?_)
                        refine lv_iload_n hx hb dX11_halfOf_123 rfl (lv_at hl 4 rfl) ?_
                        refine lv_aload_n hx hb dX11_halfOf_124 rfl (lv_at hl 1 rfl) ?_
                        refine va_get (D := G) (ci := 8) (v := .ref a_t_order) (C := RX11) (T := TX11) (N := 22) hx hb hts i_X11 hown hK hP 0 rfl rfl 7 (by decide) l_23 (fun _ h9 => h9) rfl dX11_halfOf_125 ?_
                        refine lv_iload hx hb dX11_halfOf_128 (lv_at hl 7 rfl) ?_
                        obtain ⟨g130, hm⟩ := gd_some hm
                        refine va_iald hx hb hK hP 2 0 rfl rfl (kin_ok g130) dX11_halfOf_130 ?_
                        refine lv_aload_n hx hb dX11_halfOf_131 rfl (lv_at hl 1 rfl) ?_
                        refine va_get (D := G) (ci := 8) (v := .ref a_t_order) (C := RX11) (T := TX11) (N := 22) hx hb hts i_X11 hown hK hP 0 rfl rfl 7 (by decide) l_23 (fun _ h9 => h9) rfl dX11_halfOf_132 ?_
                        refine lv_iload_n hx hb dX11_halfOf_135 rfl (lv_at hl 3 rfl) ?_
                        obtain ⟨g136, hm⟩ := gd_some hm
                        refine va_iald hx hb hK hP 2 0 rfl rfl (kin_ok g136) dX11_halfOf_136 ?_
                        refine lv_icmp_le (tgt := 147) hx hb dX11_halfOf_137 (by decide) (fun c137 => ?_) (fun c137 => ?_)
                        · rw [if_pos c137] at hm
                          refine lv_iconst (v := 0) hx hb dX11_halfOf_147 (by decide) ?_
                          refine lv_ior hx hb dX11_halfOf_148 ?_
                          refine lv_istore_n (lv' := [(3, .int (v39_3 ||| 0)), (4, .int s121_0), (0, .ref a_t), (1, .int p1), (2, .int p2), (5, .int v29_5), (6, .int v39_6), (7, .int r53)]) hx hb dX11_halfOf_149 rfl hl (by decide) rfl (fun ls hl => ?_)
                          refine lv_iinc (v := v39_6 + 1) (lv' := [(6, .int (v39_6 + 1)), (3, .int (v39_3 ||| 0)), (4, .int s121_0), (0, .ref a_t), (1, .int p1), (2, .int p2), (5, .int v29_5), (7, .int r53)]) hx hb dX11_halfOf_150 hl (k := 6) rfl rfl (by decide) rfl (fun ls hl => ?_)
                          refine lv_goto (tgt := 39) hx hb dX11_halfOf_153 (by decide) ?_
                          exact ih39 (v39_3 ||| 0) s121_0 (v39_6 + 1) _ _ _ hP hD hS (lv_sub hl [3, 4, 5, 1, 2, 6, 0] rfl) hm
                        · rw [if_neg c137] at hm
                          refine lv_iconst (v := 1) hx hb dX11_halfOf_140 (by decide) ?_
                          refine lv_iload hx hb dX11_halfOf_141 (lv_at hl 7 rfl) ?_
                          refine lv_ishl hx hb dX11_halfOf_143 ?_
                          refine lv_goto (tgt := 148) hx hb dX11_halfOf_144 (by decide) ?_
                          refine lv_ior hx hb dX11_halfOf_148 ?_
                          refine lv_istore_n (lv' := [(3, .int (v39_3 ||| (1 <<< (r53 &&& 31)))), (4, .int s121_0), (0, .ref a_t), (1, .int p1), (2, .int p2), (5, .int v29_5), (6, .int v39_6), (7, .int r53)]) hx hb dX11_halfOf_149 rfl hl (by decide) rfl (fun ls hl => ?_)
                          refine lv_iinc (v := v39_6 + 1) (lv' := [(6, .int (v39_6 + 1)), (3, .int (v39_3 ||| (1 <<< (r53 &&& 31)))), (4, .int s121_0), (0, .ref a_t), (1, .int p1), (2, .int p2), (5, .int v29_5), (7, .int r53)]) hx hb dX11_halfOf_150 hl (k := 6) rfl rfl (by decide) rfl (fun ls hl => ?_)
                          refine lv_goto (tgt := 39) hx hb dX11_halfOf_153 (by decide) ?_
                          exact ih39 (v39_3 ||| (1 <<< (r53 &&& 31))) s121_0 (v39_6 + 1) _ _ _ hP hD hS (lv_sub hl [3, 4, 5, 1, 2, 6, 0] rfl) hm
                      refine lv_icmp_eq (tgt := 119) hx hb dX11_halfOf_87 (by decide) (fun c87 => ?_) (fun c87 => ?_)
                      · rw [if_pos c87] at hm
                        refine lv_iload hx hb dX11_halfOf_119 (lv_at hl 5 rfl) ?_
                        exact h121 v39_4 _ _ _ hP hD hS (lv_sub hl [1, 2, 3, 4, 6, 7, 0] rfl) hm
                      · rw [if_neg c87] at hm
                        refine lv_iload hx hb dX11_halfOf_90 (lv_at hl 5 rfl) ?_
                        refine lv_bipush (v := (-9)) hx hb dX11_halfOf_92 (by decide) ?_
                        refine lv_icmp_eq (tgt := 114) hx hb dX11_halfOf_94 (by decide) (fun c94 => ?_) (fun c94 => ?_)
                        · rw [if_pos c94] at hm
                          refine lv_iload hx hb dX11_halfOf_114 (lv_at hl 0 rfl) ?_
                          refine lv_goto (tgt := 121) hx hb dX11_halfOf_116 (by decide) ?_
                          exact h121 r53 _ _ _ hP hD hS (lv_sub hl [1, 2, 3, 4, 6, 7, 0] rfl) hm
                        · rw [if_neg c94] at hm
                          refine lv_aload_n hx hb dX11_halfOf_97 rfl (lv_at hl 1 rfl) ?_
                          refine va_get (D := G) (ci := 8) (v := .ref a_t_order) (C := RX11) (T := TX11) (N := 22) hx hb hts i_X11 hown hK hP 0 rfl rfl 7 (by decide) l_23 (fun _ h9 => h9) rfl dX11_halfOf_98 ?_
                          refine lv_iload hx hb dX11_halfOf_101 (lv_at hl 0 rfl) ?_
                          obtain ⟨g103, hm⟩ := gd_some hm
                          refine va_iald hx hb hK hP 2 0 rfl rfl (kin_ok g103) dX11_halfOf_103 ?_
                          refine lv_aload_n hx hb dX11_halfOf_104 rfl (lv_at hl 1 rfl) ?_
                          refine va_get (D := G) (ci := 8) (v := .ref a_t_order) (C := RX11) (T := TX11) (N := 22) hx hb hts i_X11 hown hK hP 0 rfl rfl 7 (by decide) l_23 (fun _ h9 => h9) rfl dX11_halfOf_105 ?_
                          refine lv_iload hx hb dX11_halfOf_108 (lv_at hl 5 rfl) ?_
                          obtain ⟨g110, hm⟩ := gd_some hm
                          refine va_iald hx hb hK hP 2 0 rfl rfl (kin_ok g110) dX11_halfOf_110 ?_
                          refine lv_icmp_ge (tgt := 119) hx hb dX11_halfOf_111 (by decide) (fun c111 => ?_) (fun c111 => ?_)
                          · rw [if_pos c111] at hm
                            refine lv_iload hx hb dX11_halfOf_119 (lv_at hl 5 rfl) ?_
                            exact h121 v39_4 _ _ _ hP hD hS (lv_sub hl [1, 2, 3, 4, 6, 7, 0] rfl) hm
                          · rw [if_neg c111] at hm
                            refine lv_iload hx hb dX11_halfOf_114 (lv_at hl 0 rfl) ?_
                            refine lv_goto (tgt := 121) hx hb dX11_halfOf_116 (by decide) ?_
                            exact h121 r53 _ _ _ hP hD hS (lv_sub hl [1, 2, 3, 4, 6, 7, 0] rfl) hm
            exact h39 kFU v29_3 v29_4 0 _ _ _ hP hD hS (lv_sub hl [1, 2, 3, 4, 5, 6, 0] rfl) hm
      exact h29 kFU (1 <<< (p2 &&& 31)) (-9) 0 _ _ _ hP hD hS (lv_sub hl [3, 4, 5, 2, 1, 0] rfl) hm
    · rw [if_pos c12] at hm
      refine lv_bipush (v := (-9)) hx hb dX11_halfOf_15 (by decide) ?_
      have hm := Option.some.inj hm
      subst hm
      exact k_iret (v := (-9)) X rfl dX11_halfOf_17 hP hD hS
theorem hd_X11_halfOf : yX11_halfOf.cls = RX11 ∧ yX11_halfOf.cls ≠ "java/lang/invoke/MethodHandle" ∧ yX11_halfOf.cls ≠ "java/lang/invoke/VarHandle" ∧ (parseMethodDescriptor yX11_halfOf.desc).map (fun d => d.parameters.length) = some 2 := by decide +kernel
/-! CoverOrderModel rimOf -/
set_option maxRecDepth 100000 in
set_option maxHeartbeats 4000000 in
theorem c_X11_rimOf (l : Launch) (G : va_G) (cI cZ cE : ClassId) (a_t a_t_now a_t_text a_t_covers a_t_order a_t_way a_t_tried a_t_row a_t_lids a_t_shown a_t_seenKnot a_t_seenLid a_t_seenHad a_t_isKept a_t_kept : Nat) (k_t_knots : Int32) (k_t_readKnots : Int32) (k_t_length : Int32) (k_t_reached : Int32) (k_t_acts : Int32) (k_t_next : Int32) (k_t_seen : Int32) (k_t_seed : Int64) (f_t_now : Nat → Int32) (f_t_covers : Nat → Int32) (p1 : Int32) (p2 : Int32) (R : Int32) (hm : mX11_rimOf f_t_now f_t_covers p1 p2 = some R) : kM l yX11_rimOf wsX11_rimOf { frames := 1, cells := 0, slots := 0, locals := 22 } G cI cZ cE [.ref a_t, .int p1, .int p2] [(a_t, .inr (8, [.int k_t_knots, .ref a_t_now, .int k_t_readKnots, .ref a_t_text, .int k_t_length, .ref a_t_covers, .int k_t_reached, .ref a_t_order, .ref a_t_way, .ref a_t_tried, .int k_t_acts, .int k_t_next, .ref a_t_row, .ref a_t_lids, .ref a_t_shown, .int k_t_seen, .ref a_t_seenKnot, .ref a_t_seenLid, .ref a_t_seenHad, .long k_t_seed, .ref a_t_isKept, .ref a_t_kept])), (a_t_now, .inl (cI, 100, .inl f_t_now)), (a_t_covers, .inl (cI, 8, .inl f_t_covers))] [(a_t, .inr (8, [.int k_t_knots, .ref a_t_now, .int k_t_readKnots, .ref a_t_text, .int k_t_length, .ref a_t_covers, .int k_t_reached, .ref a_t_order, .ref a_t_way, .ref a_t_tried, .int k_t_acts, .int k_t_next, .ref a_t_row, .ref a_t_lids, .ref a_t_shown, .int k_t_seen, .ref a_t_seenKnot, .ref a_t_seenLid, .ref a_t_seenHad, .long k_t_seed, .ref a_t_isKept, .ref a_t_kept])), (a_t_now, .inl (cI, 100, .inl f_t_now)), (a_t_covers, .inl (cI, 8, .inl f_t_covers))] (some (.int R)) := by
  refine kM_of cX11_rimOf 7 (some .int) RX11 (by decide) rfl rfl (Nat.le_of_ble_eq_true rfl) ?_
  intro p e s m below meth c A ls X hA hP hD hS hl
  have hx := X.1.1
  have hb := X.1.2.1
  have hts := X.1.2.2.2.2
  have hown := X.1.2.2.2.1
  have hK := X.2.2.2.1
  have l_20 : (.fieldLink RX11 20 "CoverOrderModel" "covers" "[I" : Cond).before _ s = true := hts _ (List.mem_of_getElem? (i := 1) (by decide +kernel))
  have i_X11 : ∀ w ∈ u_ws RX11 TX11 22, w ∈ wsX11_rimOf := k_in _ [19, 20, 21, 22, 23, 24, 25, 26, 27, 28, 29, 30, 31, 32, 33, 34, 35, 36, 37, 38, 39, 40] (by decide +kernel)
  have hl : lv_has ls 7 [(0, .ref a_t), (1, .int p1), (2, .int p2)] := hl
  rw [mX11_rimOf] at hm
  refine lv_iconst (v := 0) hx hb dX11_rimOf_0 (by decide) ?_
  refine lv_istore_n (lv' := [(3, .int 0), (0, .ref a_t), (1, .int p1), (2, .int p2)]) hx hb dX11_rimOf_1 rfl hl (by decide) rfl (fun ls hl => ?_)
  refine lv_iconst (v := 0) hx hb dX11_rimOf_2 (by decide) ?_
  refine lv_istore (lv' := [(4, .int 0), (3, .int 0), (0, .ref a_t), (1, .int p1), (2, .int p2)]) hx hb dX11_rimOf_3 hl (by decide) rfl (fun ls hl => ?_)
  have h5 : ∀ (n5 : Nat), ∀ (v5_3 : Int32) (v5_4 : Int32) (H : Heap) (locs : List Loc) (ls : Array Slot), va_P G vwCl [(a_t, .inr (8, [.int k_t_knots, .ref a_t_now, .int k_t_readKnots, .ref a_t_text, .int k_t_length, .ref a_t_covers, .int k_t_reached, .ref a_t_order, .ref a_t_way, .ref a_t_tried, .int k_t_acts, .int k_t_next, .ref a_t_row, .ref a_t_lids, .ref a_t_shown, .int k_t_seen, .ref a_t_seenKnot, .ref a_t_seenLid, .ref a_t_seenHad, .long k_t_seed, .ref a_t_isKept, .ref a_t_kept])), (a_t_now, .inl (cI, 100, .inl f_t_now)), (a_t_covers, .inl (cI, 8, .inl f_t_covers))] H → va_D A [(a_t, .inr (8, [.int k_t_knots, .ref a_t_now, .int k_t_readKnots, .ref a_t_text, .int k_t_length, .ref a_t_covers, .int k_t_reached, .ref a_t_order, .ref a_t_way, .ref a_t_tried, .int k_t_acts, .int k_t_next, .ref a_t_row, .ref a_t_lids, .ref a_t_shown, .int k_t_seen, .ref a_t_seenKnot, .ref a_t_seenLid, .ref a_t_seenHad, .long k_t_seed, .ref a_t_isKept, .ref a_t_kept])), (a_t_now, .inl (cI, 100, .inl f_t_now)), (a_t_covers, .inl (cI, 8, .inl f_t_covers))] → va_S A s.heap H locs → lv_has ls 7 [(0, .ref a_t), (1, .int p1), (2, .int p2), (3, .int v5_3), (4, .int v5_4)] → mX11_rimOf_L5 f_t_now f_t_covers p1 p2 n5 v5_3 v5_4 = some R → W p l e { frames := 1, cells := 0, slots := 0, locals := 22 } s m ([.ref a_t, .int p1, .int p2] : List Value).toArray below meth c H locs 0 0 (kQ below G [(a_t, .inr (8, [.int k_t_knots, .ref a_t_now, .int k_t_readKnots, .ref a_t_text, .int k_t_length, .ref a_t_covers, .int k_t_reached, .ref a_t_order, .ref a_t_way, .ref a_t_tried, .int k_t_acts, .int k_t_next, .ref a_t_row, .ref a_t_lids, .ref a_t_shown, .int k_t_seen, .ref a_t_seenKnot, .ref a_t_seenLid, .ref a_t_seenHad, .long k_t_seed, .ref a_t_isKept, .ref a_t_kept])), (a_t_now, .inl (cI, 100, .inl f_t_now)), (a_t_covers, .inl (cI, 8, .inl f_t_covers))] (some (.int R)) A ([.ref a_t, .int p1, .int p2] : List Value).toArray s) (F0 m 5 ls []) := by
    intro n5
    induction n5 with
    | zero => intro v5_3 v5_4 H locs ls hP hD hS hl hm; rw [mX11_rimOf_L5] at hm; cases hm
    | succ n5 ih5 =>
      intro v5_3 v5_4 H locs ls hP hD hS hl hm
      rw [mX11_rimOf_L5] at hm
      refine lv_iload hx hb dX11_rimOf_5 (lv_at hl 4 rfl) ?_
      refine lv_aload_n hx hb dX11_rimOf_7 rfl (lv_at hl 0 rfl) ?_
      refine lv_iload_n hx hb dX11_rimOf_8 rfl (lv_at hl 1 rfl) ?_
      obtain ⟨r9, hc9, hm⟩ := kbind hm
      refine kcV0 (st1 := [.int r9, .int v5_4]) X hA (c_X11_many l G cI cZ cE a_t a_t_now a_t_text a_t_covers a_t_order a_t_way a_t_tried a_t_row a_t_lids a_t_shown a_t_seenKnot a_t_seenLid a_t_seenHad a_t_isKept a_t_kept k_t_knots k_t_readKnots k_t_length k_t_reached k_t_acts k_t_next k_t_seen k_t_seed f_t_now p1 r9 hc9) (cwV 1 hts gX11_rimOf_X11_many rfl rfl rfl hd_X11_many ⟨Nat.le_of_ble_eq_true rfl, Nat.le_of_ble_eq_true rfl⟩) 0 8 rfl rfl hl.1 dX11_rimOf_9 hP hD hS [0, 1] rfl rfl rfl [.int v5_4] rfl (Nat.le_of_ble_eq_true rfl) rfl ⟨Nat.zero_le _, Nat.zero_le _⟩ (fun H locs hP hD hS => ?_)
      refine lv_icmp_ge (tgt := 84) hx hb dX11_rimOf_12 (by decide) (fun c12 => ?_) (fun c12 => ?_)
      · rw [if_pos c12] at hm
        refine lv_iload_n hx hb dX11_rimOf_84 rfl (lv_at hl 3 rfl) ?_
        have hm := Option.some.inj hm
        subst hm
        exact k_iret (v := v5_3) X rfl dX11_rimOf_85 hP hD hS
      · rw [if_neg c12] at hm
        refine lv_aload_n hx hb dX11_rimOf_15 rfl (lv_at hl 0 rfl) ?_
        refine lv_iload_n hx hb dX11_rimOf_16 rfl (lv_at hl 1 rfl) ?_
        refine lv_iload hx hb dX11_rimOf_17 (lv_at hl 4 rfl) ?_
        obtain ⟨r19, hc19, hm⟩ := kbind hm
        refine kcV0 (st1 := [.int r19]) X hA (c_X11_toOf l G cI cZ cE a_t a_t_now a_t_text a_t_covers a_t_order a_t_way a_t_tried a_t_row a_t_lids a_t_shown a_t_seenKnot a_t_seenLid a_t_seenHad a_t_isKept a_t_kept k_t_knots k_t_readKnots k_t_length k_t_reached k_t_acts k_t_next k_t_seen k_t_seed f_t_now p1 v5_4 r19 hc19) (cwV 2 hts gX11_rimOf_X11_toOf rfl rfl rfl hd_X11_toOf ⟨Nat.le_of_ble_eq_true rfl, Nat.le_of_ble_eq_true rfl⟩) 0 8 rfl rfl hl.1 dX11_rimOf_19 hP hD hS [0, 1] rfl rfl rfl [] rfl (Nat.le_of_ble_eq_true rfl) rfl ⟨Nat.zero_le _, Nat.zero_le _⟩ (fun H locs hP hD hS => ?_)
        refine lv_istore (lv' := [(5, .int r19), (0, .ref a_t), (1, .int p1), (2, .int p2), (3, .int v5_3), (4, .int v5_4)]) hx hb dX11_rimOf_22 hl (by decide) rfl (fun ls hl => ?_)
        refine lv_aload_n hx hb dX11_rimOf_24 rfl (lv_at hl 1 rfl) ?_
        refine va_get (D := G) (ci := 8) (v := .ref a_t_covers) (C := RX11) (T := TX11) (N := 22) hx hb hts i_X11 hown hK hP 0 rfl rfl 5 (by decide) l_20 (fun _ h9 => h9) rfl dX11_rimOf_25 ?_
        refine lv_aload_n hx hb dX11_rimOf_28 rfl (lv_at hl 1 rfl) ?_
        refine lv_iload_n hx hb dX11_rimOf_29 rfl (lv_at hl 2 rfl) ?_
        refine lv_iload hx hb dX11_rimOf_30 (lv_at hl 5 rfl) ?_
        obtain ⟨r32, hc32, hm⟩ := kbind hm
        refine kcV0 (st1 := [.int r32, .ref a_t_covers]) X hA (c_X11_fromOf l G cI cZ cE a_t a_t_now a_t_text a_t_covers a_t_order a_t_way a_t_tried a_t_row a_t_lids a_t_shown a_t_seenKnot a_t_seenLid a_t_seenHad a_t_isKept a_t_kept k_t_knots k_t_readKnots k_t_length k_t_reached k_t_acts k_t_next k_t_seen k_t_seed f_t_now p1 v5_4 r32 hc32) (cwV 2 hts gX11_rimOf_X11_fromOf rfl rfl rfl hd_X11_fromOf ⟨Nat.le_of_ble_eq_true rfl, Nat.le_of_ble_eq_true rfl⟩) 0 8 rfl rfl hl.1 dX11_rimOf_32 hP hD hS [0, 1] rfl rfl rfl [.ref a_t_covers] rfl (Nat.le_of_ble_eq_true rfl) rfl ⟨Nat.zero_le _, Nat.zero_le _⟩ (fun H locs hP hD hS => ?_)
        obtain ⟨g35, hm⟩ := gd_some hm
        refine va_iald hx hb hK hP 2 0 rfl rfl (kin_ok g35) dX11_rimOf_35 ?_
        refine lv_iload_n hx hb dX11_rimOf_36 rfl (lv_at hl 3 rfl) ?_
        refine kcS0 (st1 := [.int (bI (mX11_has (f_t_covers (Int32.toNatClampNeg r32)) p2))]) X hA (c_X11_has l G cI cZ cE (f_t_covers (Int32.toNatClampNeg r32)) p2 _ rfl) (va_cwS 2 hts gX11_rimOf_X11_has rfl rfl rfl hd_X11_has ⟨Nat.le_of_ble_eq_true rfl, Nat.le_of_ble_eq_true rfl⟩) hl.1 dX11_rimOf_37 hP hD hS [] rfl rfl rfl [] rfl (Nat.le_of_ble_eq_true rfl) rfl ⟨Nat.zero_le _, Nat.zero_le _⟩ (fun H locs hP hD hS => ?_)
        refine lv_istore (lv' := [(6, .int (bI (mX11_has (f_t_covers (Int32.toNatClampNeg r32)) p2))), (5, .int r19), (0, .ref a_t), (1, .int p1), (2, .int p2), (3, .int v5_3), (4, .int v5_4)]) hx hb dX11_rimOf_40 hl (by decide) rfl (fun ls hl => ?_)
        refine lv_iload_n hx hb dX11_rimOf_42 rfl (lv_at hl 5 rfl) ?_
        refine lv_iload hx hb dX11_rimOf_43 (lv_at hl 0 rfl) ?_
        refine lv_if_eq (tgt := 75) hx hb dX11_rimOf_45 (by decide) (fun c45 => ?_) (fun c45 => ?_)
        · have c45 := kb0 c45
          rw [if_neg c45] at hm
          refine lv_iconst (v := 0) hx hb dX11_rimOf_75 (by decide) ?_
          refine lv_ior hx hb dX11_rimOf_76 ?_
          refine lv_istore_n (lv' := [(3, .int (v5_3 ||| 0)), (6, .int (bI (mX11_has (f_t_covers (Int32.toNatClampNeg r32)) p2))), (5, .int r19), (0, .ref a_t), (1, .int p1), (2, .int p2), (4, .int v5_4)]) hx hb dX11_rimOf_77 rfl hl (by decide) rfl (fun ls hl => ?_)
          refine lv_iinc (v := v5_4 + 1) (lv' := [(4, .int (v5_4 + 1)), (3, .int (v5_3 ||| 0)), (6, .int (bI (mX11_has (f_t_covers (Int32.toNatClampNeg r32)) p2))), (5, .int r19), (0, .ref a_t), (1, .int p1), (2, .int p2)]) hx hb dX11_rimOf_78 hl (k := 6) rfl rfl (by decide) rfl (fun ls hl => ?_)
          refine lv_goto (tgt := 5) hx hb dX11_rimOf_81 (by decide) ?_
          exact ih5 (v5_3 ||| 0) (v5_4 + 1) _ _ _ hP hD hS (lv_sub hl [4, 5, 6, 1, 0] rfl) hm
        · have c45 := kb1 c45
          rw [if_pos c45] at hm
          refine lv_aload_n hx hb dX11_rimOf_48 rfl (lv_at hl 2 rfl) ?_
          refine va_get (D := G) (ci := 8) (v := .ref a_t_covers) (C := RX11) (T := TX11) (N := 22) hx hb hts i_X11 hown hK hP 0 rfl rfl 5 (by decide) l_20 (fun _ h9 => h9) rfl dX11_rimOf_49 ?_
          refine lv_iload hx hb dX11_rimOf_52 (lv_at hl 1 rfl) ?_
          obtain ⟨g54, hm⟩ := gd_some hm
          refine va_iald hx hb hK hP 2 0 rfl rfl (kin_ok g54) dX11_rimOf_54 ?_
          refine lv_iload_n hx hb dX11_rimOf_55 rfl (lv_at hl 4 rfl) ?_
          refine kcS0 (st1 := [.int (bI (mX11_has (f_t_covers (Int32.toNatClampNeg r19)) p2)), .int v5_3]) X hA (c_X11_has l G cI cZ cE (f_t_covers (Int32.toNatClampNeg r19)) p2 _ rfl) (va_cwS 2 hts gX11_rimOf_X11_has rfl rfl rfl hd_X11_has ⟨Nat.le_of_ble_eq_true rfl, Nat.le_of_ble_eq_true rfl⟩) hl.1 dX11_rimOf_56 hP hD hS [] rfl rfl rfl [.int v5_3] rfl (Nat.le_of_ble_eq_true rfl) rfl ⟨Nat.zero_le _, Nat.zero_le _⟩ (fun H locs hP hD hS => ?_)
          refine lv_if_eq (tgt := 68) hx hb dX11_rimOf_59 (by decide) (fun c59 => ?_) (fun c59 => ?_)
          · have c59 := kb0 c59
            rw [if_neg c59] at hm
            refine lv_iconst (v := 1) hx hb dX11_rimOf_68 (by decide) ?_
            refine lv_iload hx hb dX11_rimOf_69 (lv_at hl 1 rfl) ?_
            refine lv_ishl hx hb dX11_rimOf_71 ?_
            refine lv_goto (tgt := 76) hx hb dX11_rimOf_72 (by decide) ?_
            refine lv_ior hx hb dX11_rimOf_76 ?_
            refine lv_istore_n (lv' := [(3, .int (v5_3 ||| (1 <<< (r19 &&& 31)))), (6, .int (bI (mX11_has (f_t_covers (Int32.toNatClampNeg r32)) p2))), (5, .int r19), (0, .ref a_t), (1, .int p1), (2, .int p2), (4, .int v5_4)]) hx hb dX11_rimOf_77 rfl hl (by decide) rfl (fun ls hl => ?_)
            refine lv_iinc (v := v5_4 + 1) (lv' := [(4, .int (v5_4 + 1)), (3, .int (v5_3 ||| (1 <<< (r19 &&& 31)))), (6, .int (bI (mX11_has (f_t_covers (Int32.toNatClampNeg r32)) p2))), (5, .int r19), (0, .ref a_t), (1, .int p1), (2, .int p2)]) hx hb dX11_rimOf_78 hl (k := 6) rfl rfl (by decide) rfl (fun ls hl => ?_)
            refine lv_goto (tgt := 5) hx hb dX11_rimOf_81 (by decide) ?_
            exact ih5 (v5_3 ||| (1 <<< (r19 &&& 31))) (v5_4 + 1) _ _ _ hP hD hS (lv_sub hl [4, 5, 6, 1, 0] rfl) hm
          · have c59 := kb1 c59
            rw [if_pos c59] at hm
            refine lv_iload hx hb dX11_rimOf_62 (lv_at hl 1 rfl) ?_
            refine lv_iload_n hx hb dX11_rimOf_64 rfl (lv_at hl 4 rfl) ?_
            refine lv_icmp_ne (tgt := 75) hx hb dX11_rimOf_65 (by decide) (fun c65 => ?_) (fun c65 => ?_)
            · rw [if_neg c65] at hm
              refine lv_iconst (v := 0) hx hb dX11_rimOf_75 (by decide) ?_
              refine lv_ior hx hb dX11_rimOf_76 ?_
              refine lv_istore_n (lv' := [(3, .int (v5_3 ||| 0)), (6, .int (bI (mX11_has (f_t_covers (Int32.toNatClampNeg r32)) p2))), (5, .int r19), (0, .ref a_t), (1, .int p1), (2, .int p2), (4, .int v5_4)]) hx hb dX11_rimOf_77 rfl hl (by decide) rfl (fun ls hl => ?_)
              refine lv_iinc (v := v5_4 + 1) (lv' := [(4, .int (v5_4 + 1)), (3, .int (v5_3 ||| 0)), (6, .int (bI (mX11_has (f_t_covers (Int32.toNatClampNeg r32)) p2))), (5, .int r19), (0, .ref a_t), (1, .int p1), (2, .int p2)]) hx hb dX11_rimOf_78 hl (k := 6) rfl rfl (by decide) rfl (fun ls hl => ?_)
              refine lv_goto (tgt := 5) hx hb dX11_rimOf_81 (by decide) ?_
              exact ih5 (v5_3 ||| 0) (v5_4 + 1) _ _ _ hP hD hS (lv_sub hl [4, 5, 6, 1, 0] rfl) hm
            · rw [if_pos c65] at hm
              refine lv_iconst (v := 1) hx hb dX11_rimOf_68 (by decide) ?_
              refine lv_iload hx hb dX11_rimOf_69 (lv_at hl 1 rfl) ?_
              refine lv_ishl hx hb dX11_rimOf_71 ?_
              refine lv_goto (tgt := 76) hx hb dX11_rimOf_72 (by decide) ?_
              refine lv_ior hx hb dX11_rimOf_76 ?_
              refine lv_istore_n (lv' := [(3, .int (v5_3 ||| (1 <<< (r19 &&& 31)))), (6, .int (bI (mX11_has (f_t_covers (Int32.toNatClampNeg r32)) p2))), (5, .int r19), (0, .ref a_t), (1, .int p1), (2, .int p2), (4, .int v5_4)]) hx hb dX11_rimOf_77 rfl hl (by decide) rfl (fun ls hl => ?_)
              refine lv_iinc (v := v5_4 + 1) (lv' := [(4, .int (v5_4 + 1)), (3, .int (v5_3 ||| (1 <<< (r19 &&& 31)))), (6, .int (bI (mX11_has (f_t_covers (Int32.toNatClampNeg r32)) p2))), (5, .int r19), (0, .ref a_t), (1, .int p1), (2, .int p2)]) hx hb dX11_rimOf_78 hl (k := 6) rfl rfl (by decide) rfl (fun ls hl => ?_)
              refine lv_goto (tgt := 5) hx hb dX11_rimOf_81 (by decide) ?_
              exact ih5 (v5_3 ||| (1 <<< (r19 &&& 31))) (v5_4 + 1) _ _ _ hP hD hS (lv_sub hl [4, 5, 6, 1, 0] rfl) hm
  exact h5 kFU 0 0 _ _ _ hP hD hS (lv_sub hl [2, 3, 4, 1, 0] rfl) hm
theorem hd_X11_rimOf : yX11_rimOf.cls = RX11 ∧ yX11_rimOf.cls ≠ "java/lang/invoke/MethodHandle" ∧ yX11_rimOf.cls ≠ "java/lang/invoke/VarHandle" ∧ (parseMethodDescriptor yX11_rimOf.desc).map (fun d => d.parameters.length) = some 2 := by decide +kernel
/-! CoverOrderModel knot -/
set_option maxRecDepth 100000 in
set_option maxHeartbeats 4000000 in
theorem c_X11_knot (l : Launch) (G : va_G) (cI cZ cE : ClassId) (a_t a_t_now a_t_text a_t_covers a_t_order a_t_way a_t_tried a_t_row a_t_lids a_t_shown a_t_seenKnot a_t_seenLid a_t_seenHad a_t_isKept a_t_kept : Nat) (k_t_knots : Int32) (k_t_readKnots : Int32) (k_t_length : Int32) (k_t_reached : Int32) (k_t_acts : Int32) (k_t_next : Int32) (k_t_seen : Int32) (k_t_seed : Int64) (f_t_now : Nat → Int32) (f_t_covers : Nat → Int32) (f_t_order : Nat → Int32) (f_t_way : Nat → Int32) (f_t_tried : Nat → Int32) (p1 : Int32) (p2 : Int32) (R : Int32 × Int32 × (Nat → Int32) × (Nat → Int32) × (Nat → Int32) × (Nat → Int32)) (hm : mX11_knot k_t_knots k_t_reached f_t_now f_t_covers f_t_order f_t_way f_t_tried p1 p2 = some R) : kM l yX11_knot wsX11_knot { frames := 3, cells := 0, slots := 0, locals := 77 } G cI cZ cE [.ref a_t, .int p1, .int p2] [(a_t, .inr (8, [.int k_t_knots, .ref a_t_now, .int k_t_readKnots, .ref a_t_text, .int k_t_length, .ref a_t_covers, .int k_t_reached, .ref a_t_order, .ref a_t_way, .ref a_t_tried, .int k_t_acts, .int k_t_next, .ref a_t_row, .ref a_t_lids, .ref a_t_shown, .int k_t_seen, .ref a_t_seenKnot, .ref a_t_seenLid, .ref a_t_seenHad, .long k_t_seed, .ref a_t_isKept, .ref a_t_kept])), (a_t_now, .inl (cI, 100, .inl f_t_now)), (a_t_covers, .inl (cI, 8, .inl f_t_covers)), (a_t_order, .inl (cI, 8, .inl f_t_order)), (a_t_way, .inl (cI, 8, .inl f_t_way)), (a_t_tried, .inl (cI, 8, .inl f_t_tried))] [(a_t, .inr (8, [.int k_t_knots, .ref a_t_now, .int k_t_readKnots, .ref a_t_text, .int k_t_length, .ref a_t_covers, .int R.2.1, .ref a_t_order, .ref a_t_way, .ref a_t_tried, .int k_t_acts, .int k_t_next, .ref a_t_row, .ref a_t_lids, .ref a_t_shown, .int k_t_seen, .ref a_t_seenKnot, .ref a_t_seenLid, .ref a_t_seenHad, .long k_t_seed, .ref a_t_isKept, .ref a_t_kept])), (a_t_now, .inl (cI, 100, .inl f_t_now)), (a_t_covers, .inl (cI, 8, .inl R.2.2.1)), (a_t_order, .inl (cI, 8, .inl R.2.2.2.1)), (a_t_way, .inl (cI, 8, .inl R.2.2.2.2.1)), (a_t_tried, .inl (cI, 8, .inl R.2.2.2.2.2))] (some (.int R.1)) := by
  refine kM_of cX11_knot 3 (some .int) RX11 (by decide) rfl rfl (Nat.le_of_ble_eq_true rfl) ?_
  intro p e s m below meth c A ls X hA hP hD hS hl
  have hx := X.1.1
  have hb := X.1.2.1
  have hts := X.1.2.2.2.2
  have hown := X.1.2.2.2.1
  have hK := X.2.2.2.1
  have l_110 : (.fieldLink RX11 110 "CoverOrderModel" "reached" "I" : Cond).before _ s = true := hts _ (List.mem_of_getElem? (i := 1) (by decide +kernel))
  have i_X11 : ∀ w ∈ u_ws RX11 TX11 22, w ∈ wsX11_knot := k_in _ [66, 67, 68, 69, 70, 71, 72, 73, 74, 75, 76, 77, 78, 79, 80, 81, 82, 83, 84, 85, 86, 87] (by decide +kernel)
  have l_23 : (.fieldLink RX11 23 "CoverOrderModel" "order" "[I" : Cond).before _ s = true := hts _ (List.mem_of_getElem? (i := 2) (by decide +kernel))
  have hl : lv_has ls 3 [(0, .ref a_t), (1, .int p1), (2, .int p2)] := hl
  rw [mX11_knot] at hm
  refine lv_aload_n hx hb dX11_knot_0 rfl (lv_at hl 0 rfl) ?_
  refine lv_iload_n hx hb dX11_knot_1 rfl (lv_at hl 1 rfl) ?_
  refine kcV0 (st1 := [.int (bI (mX11_isKnot k_t_knots p1))]) X hA (c_X11_isKnot l G cI cZ cE a_t a_t_now a_t_text a_t_covers a_t_order a_t_way a_t_tried a_t_row a_t_lids a_t_shown a_t_seenKnot a_t_seenLid a_t_seenHad a_t_isKept a_t_kept k_t_knots k_t_readKnots k_t_length k_t_reached k_t_acts k_t_next k_t_seen k_t_seed p1 _ rfl) (cwV 1 hts gX11_knot_X11_isKnot rfl rfl rfl hd_X11_isKnot ⟨Nat.le_of_ble_eq_true rfl, Nat.le_of_ble_eq_true rfl⟩) 0 8 rfl rfl hl.1 dX11_knot_2 hP hD hS [0] rfl rfl rfl [] rfl (Nat.le_of_ble_eq_true rfl) rfl ⟨Nat.zero_le _, Nat.zero_le _⟩ (fun H locs hP hD hS => ?_)
  refine lv_if_ne (tgt := 10) hx hb dX11_knot_5 (by decide) (fun c5 => ?_) (fun c5 => ?_)
  · have c5 := kb1 c5
    rw [if_pos c5] at hm
    refine lv_aload_n hx hb dX11_knot_10 rfl (lv_at hl 0 rfl) ?_
    refine lv_iconst (v := 0) hx hb dX11_knot_11 (by decide) ?_
    obtain ⟨r12, hc12, hm⟩ := kbind hm
    refine kcV (ws1 := [(a_t, .inr (8, [.int k_t_knots, .ref a_t_now, .int k_t_readKnots, .ref a_t_text, .int k_t_length, .ref a_t_covers, .int r12.1, .ref a_t_order, .ref a_t_way, .ref a_t_tried, .int k_t_acts, .int k_t_next, .ref a_t_row, .ref a_t_lids, .ref a_t_shown, .int k_t_seen, .ref a_t_seenKnot, .ref a_t_seenLid, .ref a_t_seenHad, .long k_t_seed, .ref a_t_isKept, .ref a_t_kept])), (a_t_now, .inl (cI, 100, .inl f_t_now)), (a_t_covers, .inl (cI, 8, .inl r12.2)), (a_t_order, .inl (cI, 8, .inl f_t_order)), (a_t_way, .inl (cI, 8, .inl f_t_way)), (a_t_tried, .inl (cI, 8, .inl f_t_tried))]) (st1 := []) X hA (c_X11_findCovers l G cI cZ cE a_t a_t_now a_t_text a_t_covers a_t_order a_t_way a_t_tried a_t_row a_t_lids a_t_shown a_t_seenKnot a_t_seenLid a_t_seenHad a_t_isKept a_t_kept k_t_knots k_t_readKnots k_t_length k_t_reached k_t_acts k_t_next k_t_seen k_t_seed f_t_now f_t_covers 0 r12 hc12) (cwV 1 hts gX11_knot_X11_findCovers rfl rfl rfl hd_X11_findCovers ⟨Nat.le_of_ble_eq_true rfl, Nat.le_of_ble_eq_true rfl⟩) 0 8 rfl rfl hl.1 dX11_knot_12 hP hD hS [0, 1, 2] rfl rfl rfl rfl rfl [] rfl (Nat.le_of_ble_eq_true rfl) rfl ⟨Nat.zero_le _, Nat.zero_le _⟩ (fun H locs hP hD hS => ?_)
    refine lv_aload_n hx hb dX11_knot_15 rfl (lv_at hl 0 rfl) ?_
    refine lv_iconst (v := 0) hx hb dX11_knot_16 (by decide) ?_
    obtain ⟨r17, hc17, hm⟩ := kbind hm
    refine kcV (ws1 := [(a_t, .inr (8, [.int k_t_knots, .ref a_t_now, .int k_t_readKnots, .ref a_t_text, .int k_t_length, .ref a_t_covers, .int r12.1, .ref a_t_order, .ref a_t_way, .ref a_t_tried, .int k_t_acts, .int k_t_next, .ref a_t_row, .ref a_t_lids, .ref a_t_shown, .int k_t_seen, .ref a_t_seenKnot, .ref a_t_seenLid, .ref a_t_seenHad, .long k_t_seed, .ref a_t_isKept, .ref a_t_kept])), (a_t_now, .inl (cI, 100, .inl f_t_now)), (a_t_covers, .inl (cI, 8, .inl r12.2)), (a_t_order, .inl (cI, 8, .inl r17.1)), (a_t_way, .inl (cI, 8, .inl r17.2.1)), (a_t_tried, .inl (cI, 8, .inl r17.2.2))]) (st1 := []) X hA (c_X11_walk l G cI cZ cE a_t a_t_now a_t_text a_t_covers a_t_order a_t_way a_t_tried a_t_row a_t_lids a_t_shown a_t_seenKnot a_t_seenLid a_t_seenHad a_t_isKept a_t_kept k_t_knots k_t_readKnots k_t_length r12.1 k_t_acts k_t_next k_t_seen k_t_seed f_t_now f_t_order f_t_way f_t_tried 0 r17 hc17) (cwV 1 hts gX11_knot_X11_walk rfl rfl rfl hd_X11_walk ⟨Nat.le_of_ble_eq_true rfl, Nat.le_of_ble_eq_true rfl⟩) 0 8 rfl rfl hl.1 dX11_knot_17 hP hD hS [0, 1, 3, 4, 5] rfl rfl rfl rfl rfl [] rfl (Nat.le_of_ble_eq_true rfl) rfl ⟨Nat.zero_le _, Nat.zero_le _⟩ (fun H locs hP hD hS => ?_)
    refine lv_iload_n hx hb dX11_knot_20 rfl (lv_at hl 2 rfl) ?_
    rcases Classical.em (p2 = 0) with c21_0 | c21_0
    · rw [if_pos c21_0] at hm
      refine lv_tableIn (off := 43) (tgt := 64) hx hb dX11_knot_21 (by rw [c21_0]; decide) (by rw [c21_0]; decide) (by rw [c21_0]; decide) (by decide) ?_
      refine lv_aload_n hx hb dX11_knot_64 rfl (lv_at hl 0 rfl) ?_
      refine va_get (D := G) (ci := 8) (v := .int r12.1) (C := RX11) (T := TX11) (N := 22) hx hb hts i_X11 hown hK hP 0 rfl rfl 6 (by decide) l_110 (fun _ h9 => h9) rfl dX11_knot_65 ?_
      refine lv_iload_n hx hb dX11_knot_68 rfl (lv_at hl 1 rfl) ?_
      refine kcS0 (st1 := [.int (bI (mX11_has r12.1 p1))]) X hA (c_X11_has l G cI cZ cE r12.1 p1 _ rfl) (va_cwS 2 hts gX11_knot_X11_has rfl rfl rfl hd_X11_has ⟨Nat.le_of_ble_eq_true rfl, Nat.le_of_ble_eq_true rfl⟩) hl.1 dX11_knot_69 hP hD hS [] rfl rfl rfl [] rfl (Nat.le_of_ble_eq_true rfl) rfl ⟨Nat.zero_le _, Nat.zero_le _⟩ (fun H locs hP hD hS => ?_)
      refine lv_if_eq (tgt := 79) hx hb dX11_knot_72 (by decide) (fun c72 => ?_) (fun c72 => ?_)
      · have c72 := kb0 c72
        rw [if_neg c72] at hm
        refine lv_iconst (v := 0) hx hb dX11_knot_79 (by decide) ?_
        have hm := Option.some.inj hm
        subst hm
        exact k_iret (v := 0) X rfl dX11_knot_80 hP hD hS
      · have c72 := kb1 c72
        rw [if_pos c72] at hm
        refine lv_iconst (v := 1) hx hb dX11_knot_75 (by decide) ?_
        refine lv_goto (tgt := 80) hx hb dX11_knot_76 (by decide) ?_
        have hm := Option.some.inj hm
        subst hm
        exact k_iret (v := 1) X rfl dX11_knot_80 hP hD hS
    rw [if_neg c21_0] at hm
    rcases Classical.em (p2 = 1) with c21_1 | c21_1
    · rw [if_pos c21_1] at hm
      refine lv_tableIn (off := 60) (tgt := 81) hx hb dX11_knot_21 (by rw [c21_1]; decide) (by rw [c21_1]; decide) (by rw [c21_1]; decide) (by decide) ?_
      refine lv_aload_n hx hb dX11_knot_81 rfl (lv_at hl 0 rfl) ?_
      refine lv_iload_n hx hb dX11_knot_82 rfl (lv_at hl 1 rfl) ?_
      obtain ⟨r83, hc83, hm⟩ := kbind hm
      refine kcV0 (st1 := [.int r83]) X hA (c_X11_lidOf l G cI cZ cE a_t a_t_now a_t_text a_t_covers a_t_order a_t_way a_t_tried a_t_row a_t_lids a_t_shown a_t_seenKnot a_t_seenLid a_t_seenHad a_t_isKept a_t_kept k_t_knots k_t_readKnots k_t_length r12.1 k_t_acts k_t_next k_t_seen k_t_seed r12.2 p1 r83 hc83) (cwV 1 hts gX11_knot_X11_lidOf rfl rfl rfl hd_X11_lidOf ⟨Nat.le_of_ble_eq_true rfl, Nat.le_of_ble_eq_true rfl⟩) 0 8 rfl rfl hl.1 dX11_knot_83 hP hD hS [0, 2] rfl rfl rfl [] rfl (Nat.le_of_ble_eq_true rfl) rfl ⟨Nat.zero_le _, Nat.zero_le _⟩ (fun H locs hP hD hS => ?_)
      have hm := Option.some.inj hm
      subst hm
      exact k_iret (v := r83) X rfl dX11_knot_86 hP hD hS
    rw [if_neg c21_1] at hm
    rcases Classical.em (p2 = 2) with c21_2 | c21_2
    · rw [if_pos c21_2] at hm
      refine lv_tableIn (off := 66) (tgt := 87) hx hb dX11_knot_21 (by rw [c21_2]; decide) (by rw [c21_2]; decide) (by rw [c21_2]; decide) (by decide) ?_
      refine lv_aload_n hx hb dX11_knot_87 rfl (lv_at hl 0 rfl) ?_
      refine lv_iload_n hx hb dX11_knot_88 rfl (lv_at hl 1 rfl) ?_
      obtain ⟨r89, hc89, hm⟩ := kbind hm
      refine kcV0 (st1 := [.int r89]) X hA (c_X11_depthOf l G cI cZ cE a_t a_t_now a_t_text a_t_covers a_t_order a_t_way a_t_tried a_t_row a_t_lids a_t_shown a_t_seenKnot a_t_seenLid a_t_seenHad a_t_isKept a_t_kept k_t_knots k_t_readKnots k_t_length r12.1 k_t_acts k_t_next k_t_seen k_t_seed r12.2 p1 r89 hc89) (cwV 1 hts gX11_knot_X11_depthOf rfl rfl rfl hd_X11_depthOf ⟨Nat.le_of_ble_eq_true rfl, Nat.le_of_ble_eq_true rfl⟩) 0 8 rfl rfl hl.1 dX11_knot_89 hP hD hS [0, 2] rfl rfl rfl [] rfl (Nat.le_of_ble_eq_true rfl) rfl ⟨Nat.zero_le _, Nat.zero_le _⟩ (fun H locs hP hD hS => ?_)
      have hm := Option.some.inj hm
      subst hm
      exact k_iret (v := r89) X rfl dX11_knot_92 hP hD hS
    rw [if_neg c21_2] at hm
    rcases Classical.em (p2 = 3) with c21_3 | c21_3
    · rw [if_pos c21_3] at hm
      refine lv_tableIn (off := 72) (tgt := 93) hx hb dX11_knot_21 (by rw [c21_3]; decide) (by rw [c21_3]; decide) (by rw [c21_3]; decide) (by decide) ?_
      refine lv_aload_n hx hb dX11_knot_93 rfl (lv_at hl 0 rfl) ?_
      refine va_get (D := G) (ci := 8) (v := .ref a_t_order) (C := RX11) (T := TX11) (N := 22) hx hb hts i_X11 hown hK hP 0 rfl rfl 7 (by decide) l_23 (fun _ h9 => h9) rfl dX11_knot_94 ?_
      refine lv_iload_n hx hb dX11_knot_97 rfl (lv_at hl 1 rfl) ?_
      obtain ⟨g98, hm⟩ := gd_some hm
      refine va_iald hx hb hK hP 3 0 rfl rfl (kin_ok g98) dX11_knot_98 ?_
      have hm := Option.some.inj hm
      subst hm
      exact k_iret (v := r17.1 (Int32.toNatClampNeg p1)) X rfl dX11_knot_99 hP hD hS
    rw [if_neg c21_3] at hm
    rcases Classical.em (p2 = 4) with c21_4 | c21_4
    · rw [if_pos c21_4] at hm
      refine lv_tableIn (off := 79) (tgt := 100) hx hb dX11_knot_21 (by rw [c21_4]; decide) (by rw [c21_4]; decide) (by rw [c21_4]; decide) (by decide) ?_
      refine lv_aload_n hx hb dX11_knot_100 rfl (lv_at hl 0 rfl) ?_
      refine lv_iconst (v := 0) hx hb dX11_knot_101 (by decide) ?_
      refine lv_iload_n hx hb dX11_knot_102 rfl (lv_at hl 1 rfl) ?_
      obtain ⟨r103, hc103, hm⟩ := kbind hm
      refine kcV0 (st1 := [.int r103]) X hA (c_X11_halfOf l G cI cZ cE a_t a_t_now a_t_text a_t_covers a_t_order a_t_way a_t_tried a_t_row a_t_lids a_t_shown a_t_seenKnot a_t_seenLid a_t_seenHad a_t_isKept a_t_kept k_t_knots k_t_readKnots k_t_length r12.1 k_t_acts k_t_next k_t_seen k_t_seed f_t_now r17.1 0 p1 r103 hc103) (cwV 2 hts gX11_knot_X11_halfOf rfl rfl rfl hd_X11_halfOf ⟨Nat.le_of_ble_eq_true rfl, Nat.le_of_ble_eq_true rfl⟩) 0 8 rfl rfl hl.1 dX11_knot_103 hP hD hS [0, 1, 3] rfl rfl rfl [] rfl (Nat.le_of_ble_eq_true rfl) rfl ⟨Nat.zero_le _, Nat.zero_le _⟩ (fun H locs hP hD hS => ?_)
      have hm := Option.some.inj hm
      subst hm
      exact k_iret (v := r103) X rfl dX11_knot_106 hP hD hS
    rw [if_neg c21_4] at hm
    rcases Classical.em (p2 = 5) with c21_5 | c21_5
    · rw [if_pos c21_5] at hm
      refine lv_tableIn (off := 86) (tgt := 107) hx hb dX11_knot_21 (by rw [c21_5]; decide) (by rw [c21_5]; decide) (by rw [c21_5]; decide) (by decide) ?_
      refine lv_aload_n hx hb dX11_knot_107 rfl (lv_at hl 0 rfl) ?_
      refine lv_iload_n hx hb dX11_knot_108 rfl (lv_at hl 1 rfl) ?_
      obtain ⟨r109, hc109, hm⟩ := kbind hm
      refine kcV0 (st1 := [.int r109]) X hA (c_X11_coveredBy l G cI cZ cE a_t a_t_now a_t_text a_t_covers a_t_order a_t_way a_t_tried a_t_row a_t_lids a_t_shown a_t_seenKnot a_t_seenLid a_t_seenHad a_t_isKept a_t_kept k_t_knots k_t_readKnots k_t_length r12.1 k_t_acts k_t_next k_t_seen k_t_seed r12.2 p1 r109 hc109) (cwV 1 hts gX11_knot_X11_coveredBy rfl rfl rfl hd_X11_coveredBy ⟨Nat.le_of_ble_eq_true rfl, Nat.le_of_ble_eq_true rfl⟩) 0 8 rfl rfl hl.1 dX11_knot_109 hP hD hS [0, 2] rfl rfl rfl [] rfl (Nat.le_of_ble_eq_true rfl) rfl ⟨Nat.zero_le _, Nat.zero_le _⟩ (fun H locs hP hD hS => ?_)
      have hm := Option.some.inj hm
      subst hm
      exact k_iret (v := r109) X rfl dX11_knot_112 hP hD hS
    rw [if_neg c21_5] at hm
    rcases Classical.em (p2 = 6) with c21_6 | c21_6
    · rw [if_pos c21_6] at hm
      refine lv_tableIn (off := 92) (tgt := 113) hx hb dX11_knot_21 (by rw [c21_6]; decide) (by rw [c21_6]; decide) (by rw [c21_6]; decide) (by decide) ?_
      refine lv_aload_n hx hb dX11_knot_113 rfl (lv_at hl 0 rfl) ?_
      refine lv_iconst (v := 0) hx hb dX11_knot_114 (by decide) ?_
      refine lv_iload_n hx hb dX11_knot_115 rfl (lv_at hl 1 rfl) ?_
      obtain ⟨r116, hc116, hm⟩ := kbind hm
      refine kcV0 (st1 := [.int r116]) X hA (c_X11_rimOf l G cI cZ cE a_t a_t_now a_t_text a_t_covers a_t_order a_t_way a_t_tried a_t_row a_t_lids a_t_shown a_t_seenKnot a_t_seenLid a_t_seenHad a_t_isKept a_t_kept k_t_knots k_t_readKnots k_t_length r12.1 k_t_acts k_t_next k_t_seen k_t_seed f_t_now r12.2 0 p1 r116 hc116) (cwV 2 hts gX11_knot_X11_rimOf rfl rfl rfl hd_X11_rimOf ⟨Nat.le_of_ble_eq_true rfl, Nat.le_of_ble_eq_true rfl⟩) 0 8 rfl rfl hl.1 dX11_knot_116 hP hD hS [0, 1, 2] rfl rfl rfl [] rfl (Nat.le_of_ble_eq_true rfl) rfl ⟨Nat.zero_le _, Nat.zero_le _⟩ (fun H locs hP hD hS => ?_)
      have hm := Option.some.inj hm
      subst hm
      exact k_iret (v := r116) X rfl dX11_knot_119 hP hD hS
    rw [if_neg c21_6] at hm
    refine k_tableDef (tgt := 120) hx hb dX11_knot_21 (by
      have z0 : Int32.toInt p2 ≠ 0 := fun h => c21_0 (Int32.toInt_inj.mp (h.trans (by decide)))
      have z1 : Int32.toInt p2 ≠ 1 := fun h => c21_1 (Int32.toInt_inj.mp (h.trans (by decide)))
      have z2 : Int32.toInt p2 ≠ 2 := fun h => c21_2 (Int32.toInt_inj.mp (h.trans (by decide)))
      have z3 : Int32.toInt p2 ≠ 3 := fun h => c21_3 (Int32.toInt_inj.mp (h.trans (by decide)))
      have z4 : Int32.toInt p2 ≠ 4 := fun h => c21_4 (Int32.toInt_inj.mp (h.trans (by decide)))
      have z5 : Int32.toInt p2 ≠ 5 := fun h => c21_5 (Int32.toInt_inj.mp (h.trans (by decide)))
      have z6 : Int32.toInt p2 ≠ 6 := fun h => c21_6 (Int32.toInt_inj.mp (h.trans (by decide)))
      rcases (show Int32.toInt p2 < 0 ∨ 6 < Int32.toInt p2 by omega) with h | h
      · exact Or.inl h
      · exact Or.inr (Or.inl h)) (by decide) ?_
    refine lv_bipush (v := (-2)) hx hb dX11_knot_120 (by decide) ?_
    have hm := Option.some.inj hm
    subst hm
    exact k_iret (v := (-2)) X rfl dX11_knot_122 hP hD hS
  · have c5 := kb0 c5
    rw [if_neg c5] at hm
    refine lv_iconst (v := (-1)) hx hb dX11_knot_8 (by decide) ?_
    have hm := Option.some.inj hm
    subst hm
    exact k_iret (v := (-1)) X rfl dX11_knot_9 hP hD hS
theorem hd_X11_knot : yX11_knot.cls = RX11 ∧ yX11_knot.cls ≠ "java/lang/invoke/MethodHandle" ∧ yX11_knot.cls ≠ "java/lang/invoke/VarHandle" ∧ (parseMethodDescriptor yX11_knot.desc).map (fun d => d.parameters.length) = some 2 := by decide +kernel
/-! CoverOrderModel keepAct -/
set_option maxRecDepth 100000 in
set_option maxHeartbeats 4000000 in
theorem c_X11_keepAct (l : Launch) (G : va_G) (cI cZ cE : ClassId) (a_t a_t_now a_t_text a_t_covers a_t_order a_t_way a_t_tried a_t_row a_t_lids a_t_shown a_t_seenKnot a_t_seenLid a_t_seenHad a_t_isKept a_t_kept : Nat) (k_t_knots : Int32) (k_t_readKnots : Int32) (k_t_length : Int32) (k_t_reached : Int32) (k_t_acts : Int32) (k_t_next : Int32) (k_t_seen : Int32) (k_t_seed : Int64) (f_t_now : Nat → Int32) (f_t_row : Nat → Int32) (R : Int32 × Int32 × (Nat → Int32)) (hm : mX11_keepAct k_t_acts k_t_next f_t_now f_t_row = some R) : kM l yX11_keepAct wsX11_keepAct { frames := 0, cells := 0, slots := 0, locals := 0 } G cI cZ cE [.ref a_t] [(a_t, .inr (8, [.int k_t_knots, .ref a_t_now, .int k_t_readKnots, .ref a_t_text, .int k_t_length, .ref a_t_covers, .int k_t_reached, .ref a_t_order, .ref a_t_way, .ref a_t_tried, .int k_t_acts, .int k_t_next, .ref a_t_row, .ref a_t_lids, .ref a_t_shown, .int k_t_seen, .ref a_t_seenKnot, .ref a_t_seenLid, .ref a_t_seenHad, .long k_t_seed, .ref a_t_isKept, .ref a_t_kept])), (a_t_now, .inl (cI, 100, .inl f_t_now)), (a_t_row, .inl (cI, 700, .inl f_t_row))] [(a_t, .inr (8, [.int k_t_knots, .ref a_t_now, .int k_t_readKnots, .ref a_t_text, .int k_t_length, .ref a_t_covers, .int k_t_reached, .ref a_t_order, .ref a_t_way, .ref a_t_tried, .int R.1, .int R.2.1, .ref a_t_row, .ref a_t_lids, .ref a_t_shown, .int k_t_seen, .ref a_t_seenKnot, .ref a_t_seenLid, .ref a_t_seenHad, .long k_t_seed, .ref a_t_isKept, .ref a_t_kept])), (a_t_now, .inl (cI, 100, .inl f_t_now)), (a_t_row, .inl (cI, 700, .inl R.2.2))] none := by
  refine kM_of cX11_keepAct 2 none RX11 (by decide) rfl rfl (Nat.le_of_ble_eq_true rfl) ?_
  intro p e s m below meth c A ls X hA hP hD hS hl
  have hx := X.1.1
  have hb := X.1.2.1
  have hts := X.1.2.2.2.2
  have hown := X.1.2.2.2.1
  have hK := X.2.2.2.1
  have l_142 : (.fieldLink RX11 142 "CoverOrderModel" "next" "I" : Cond).before _ s = true := hts _ (List.mem_of_getElem? (i := 2) (by decide +kernel))
  have i_X11 : ∀ w ∈ u_ws RX11 TX11 22, w ∈ wsX11_keepAct := k_in _ [5, 6, 7, 8, 9, 10, 11, 12, 13, 14, 15, 16, 17, 18, 19, 20, 21, 22, 23, 24, 25, 26] (by decide +kernel)
  have l_96 : (.fieldLink RX11 96 "CoverOrderModel" "acts" "I" : Cond).before _ s = true := hts _ (List.mem_of_getElem? (i := 4) (by decide +kernel))
  have l_32 : (.fieldLink RX11 32 "CoverOrderModel" "row" "[I" : Cond).before _ s = true := hts _ (List.mem_of_getElem? (i := 1) (by decide +kernel))
  have l_13 : (.fieldLink RX11 13 "CoverOrderModel" "now" "[I" : Cond).before _ s = true := hts _ (List.mem_of_getElem? (i := 3) (by decide +kernel))
  have hl : lv_has ls 2 [(0, .ref a_t)] := hl
  rw [mX11_keepAct] at hm
  refine lv_iconst (v := 0) hx hb dX11_keepAct_0 (by decide) ?_
  refine lv_istore_n (lv' := [(1, .int 0), (0, .ref a_t)]) hx hb dX11_keepAct_1 rfl hl (by decide) rfl (fun ls hl => ?_)
  have h2 : ∀ (n2 : Nat), ∀ (v2_1 : Int32) (w2_f_t_row : Nat → Int32) (H : Heap) (locs : List Loc) (ls : Array Slot), va_P G vwCl [(a_t, .inr (8, [.int k_t_knots, .ref a_t_now, .int k_t_readKnots, .ref a_t_text, .int k_t_length, .ref a_t_covers, .int k_t_reached, .ref a_t_order, .ref a_t_way, .ref a_t_tried, .int k_t_acts, .int k_t_next, .ref a_t_row, .ref a_t_lids, .ref a_t_shown, .int k_t_seen, .ref a_t_seenKnot, .ref a_t_seenLid, .ref a_t_seenHad, .long k_t_seed, .ref a_t_isKept, .ref a_t_kept])), (a_t_now, .inl (cI, 100, .inl f_t_now)), (a_t_row, .inl (cI, 700, .inl w2_f_t_row))] H → va_D A [(a_t, .inr (8, [.int k_t_knots, .ref a_t_now, .int k_t_readKnots, .ref a_t_text, .int k_t_length, .ref a_t_covers, .int k_t_reached, .ref a_t_order, .ref a_t_way, .ref a_t_tried, .int k_t_acts, .int k_t_next, .ref a_t_row, .ref a_t_lids, .ref a_t_shown, .int k_t_seen, .ref a_t_seenKnot, .ref a_t_seenLid, .ref a_t_seenHad, .long k_t_seed, .ref a_t_isKept, .ref a_t_kept])), (a_t_now, .inl (cI, 100, .inl f_t_now)), (a_t_row, .inl (cI, 700, .inl w2_f_t_row))] → va_S A s.heap H locs → lv_has ls 2 [(0, .ref a_t), (1, .int v2_1)] → mX11_keepAct_L2 k_t_acts k_t_next f_t_now n2 v2_1 w2_f_t_row = some R → W p l e { frames := 0, cells := 0, slots := 0, locals := 0 } s m ([.ref a_t] : List Value).toArray below meth c H locs 0 0 (kQ below G [(a_t, .inr (8, [.int k_t_knots, .ref a_t_now, .int k_t_readKnots, .ref a_t_text, .int k_t_length, .ref a_t_covers, .int k_t_reached, .ref a_t_order, .ref a_t_way, .ref a_t_tried, .int R.1, .int R.2.1, .ref a_t_row, .ref a_t_lids, .ref a_t_shown, .int k_t_seen, .ref a_t_seenKnot, .ref a_t_seenLid, .ref a_t_seenHad, .long k_t_seed, .ref a_t_isKept, .ref a_t_kept])), (a_t_now, .inl (cI, 100, .inl f_t_now)), (a_t_row, .inl (cI, 700, .inl R.2.2))] none A ([.ref a_t] : List Value).toArray s) (F0 m 2 ls []) := by
    intro n2
    induction n2 with
    | zero => intro v2_1 w2_f_t_row H locs ls hP hD hS hl hm; rw [mX11_keepAct_L2] at hm; cases hm
    | succ n2 ih2 =>
      intro v2_1 w2_f_t_row H locs ls hP hD hS hl hm
      rw [mX11_keepAct_L2] at hm
      refine lv_iload_n hx hb dX11_keepAct_2 rfl (lv_at hl 1 rfl) ?_
      refine lv_bipush (v := 50) hx hb dX11_keepAct_3 (by decide) ?_
      have h34 : ∀ (H : Heap) (locs : List Loc) (ls : Array Slot), va_P G vwCl [(a_t, .inr (8, [.int k_t_knots, .ref a_t_now, .int k_t_readKnots, .ref a_t_text, .int k_t_length, .ref a_t_covers, .int k_t_reached, .ref a_t_order, .ref a_t_way, .ref a_t_tried, .int k_t_acts, .int k_t_next, .ref a_t_row, .ref a_t_lids, .ref a_t_shown, .int k_t_seen, .ref a_t_seenKnot, .ref a_t_seenLid, .ref a_t_seenHad, .long k_t_seed, .ref a_t_isKept, .ref a_t_kept])), (a_t_now, .inl (cI, 100, .inl f_t_now)), (a_t_row, .inl (cI, 700, .inl w2_f_t_row))] H → va_D A [(a_t, .inr (8, [.int k_t_knots, .ref a_t_now, .int k_t_readKnots, .ref a_t_text, .int k_t_length, .ref a_t_covers, .int k_t_reached, .ref a_t_order, .ref a_t_way, .ref a_t_tried, .int k_t_acts, .int k_t_next, .ref a_t_row, .ref a_t_lids, .ref a_t_shown, .int k_t_seen, .ref a_t_seenKnot, .ref a_t_seenLid, .ref a_t_seenHad, .long k_t_seed, .ref a_t_isKept, .ref a_t_kept])), (a_t_now, .inl (cI, 100, .inl f_t_now)), (a_t_row, .inl (cI, 700, .inl w2_f_t_row))] → va_S A s.heap H locs → lv_has ls 2 [(0, .ref a_t)] → mX11_keepAct_J34 k_t_acts k_t_next w2_f_t_row = some R → W p l e { frames := 0, cells := 0, slots := 0, locals := 0 } s m ([.ref a_t] : List Value).toArray below meth c H locs 0 0 (kQ below G [(a_t, .inr (8, [.int k_t_knots, .ref a_t_now, .int k_t_readKnots, .ref a_t_text, .int k_t_length, .ref a_t_covers, .int k_t_reached, .ref a_t_order, .ref a_t_way, .ref a_t_tried, .int R.1, .int R.2.1, .ref a_t_row, .ref a_t_lids, .ref a_t_shown, .int k_t_seen, .ref a_t_seenKnot, .ref a_t_seenLid, .ref a_t_seenHad, .long k_t_seed, .ref a_t_isKept, .ref a_t_kept])), (a_t_now, .inl (cI, 100, .inl f_t_now)), (a_t_row, .inl (cI, 700, .inl R.2.2))] none A ([.ref a_t] : List Value).toArray s) (F0 m 34 ls []) := by
        intro H locs ls hP hD hS hl hm
        rw [mX11_keepAct_J34] at hm
        refine lv_aload_n hx hb dX11_keepAct_34 rfl (lv_at hl 0 rfl) ?_
        refine lv_aload_n hx hb dX11_keepAct_35 rfl (lv_at hl 0 rfl) ?_
        refine va_get (D := G) (ci := 8) (v := .int k_t_next) (C := RX11) (T := TX11) (N := 22) hx hb hts i_X11 hown hK hP 0 rfl rfl 11 (by decide) l_142 (fun _ h9 => h9) rfl dX11_keepAct_36 ?_
        refine lv_iconst (v := 1) hx hb dX11_keepAct_39 (by decide) ?_
        refine lv_iadd hx hb dX11_keepAct_40 ?_
        refine lv_bipush (v := 14) hx hb dX11_keepAct_41 (by decide) ?_
        refine lv_irem hx hb dX11_keepAct_43 (by decide) ?_
        refine va_put (D := G) (ci := 8) (v := .int ((k_t_next + 1) - (k_t_next + 1) / 14 * 14)) (ty := .int) (C := RX11) (T := TX11) (N := 22) hx hb hts i_X11 tyX11 tyX11_ok nmX11 hown hK hP hD hS 0 rfl rfl 11 (by decide) l_142 (fun _ h9 => h9) rfl (by decide +kernel) rfl rfl (Nat.le_of_ble_eq_true rfl) dX11_keepAct_44 (fun H locs hP hD hS => ?_)
        have hP : va_P G vwCl [(a_t, .inr (8, [.int k_t_knots, .ref a_t_now, .int k_t_readKnots, .ref a_t_text, .int k_t_length, .ref a_t_covers, .int k_t_reached, .ref a_t_order, .ref a_t_way, .ref a_t_tried, .int k_t_acts, .int ((k_t_next + 1) - (k_t_next + 1) / 14 * 14), .ref a_t_row, .ref a_t_lids, .ref a_t_shown, .int k_t_seen, .ref a_t_seenKnot, .ref a_t_seenLid, .ref a_t_seenHad, .long k_t_seed, .ref a_t_isKept, .ref a_t_kept])), (a_t_now, .inl (cI, 100, .inl f_t_now)), (a_t_row, .inl (cI, 700, .inl w2_f_t_row))] H := hP
        have hD : va_D A [(a_t, .inr (8, [.int k_t_knots, .ref a_t_now, .int k_t_readKnots, .ref a_t_text, .int k_t_length, .ref a_t_covers, .int k_t_reached, .ref a_t_order, .ref a_t_way, .ref a_t_tried, .int k_t_acts, .int ((k_t_next + 1) - (k_t_next + 1) / 14 * 14), .ref a_t_row, .ref a_t_lids, .ref a_t_shown, .int k_t_seen, .ref a_t_seenKnot, .ref a_t_seenLid, .ref a_t_seenHad, .long k_t_seed, .ref a_t_isKept, .ref a_t_kept])), (a_t_now, .inl (cI, 100, .inl f_t_now)), (a_t_row, .inl (cI, 700, .inl w2_f_t_row))] := hD
        refine lv_aload_n hx hb dX11_keepAct_47 rfl (lv_at hl 0 rfl) ?_
        refine lv_aload_n hx hb dX11_keepAct_48 rfl (lv_at hl 0 rfl) ?_
        refine va_get (D := G) (ci := 8) (v := .int k_t_acts) (C := RX11) (T := TX11) (N := 22) hx hb hts i_X11 hown hK hP 0 rfl rfl 10 (by decide) l_96 (fun _ h9 => h9) rfl dX11_keepAct_49 ?_
        refine lv_bipush (v := 14) hx hb dX11_keepAct_52 (by decide) ?_
        refine lv_icmp_ge (tgt := 66) hx hb dX11_keepAct_54 (by decide) (fun c54 => ?_) (fun c54 => ?_)
        · rw [if_pos c54] at hm
          refine lv_bipush (v := 14) hx hb dX11_keepAct_66 (by decide) ?_
          refine va_put (D := G) (ci := 8) (v := .int 14) (ty := .int) (C := RX11) (T := TX11) (N := 22) hx hb hts i_X11 tyX11 tyX11_ok nmX11 hown hK hP hD hS 0 rfl rfl 10 (by decide) l_96 (fun _ h9 => h9) rfl (by decide +kernel) rfl rfl (Nat.le_of_ble_eq_true rfl) dX11_keepAct_68 (fun H locs hP hD hS => ?_)
          have hP : va_P G vwCl [(a_t, .inr (8, [.int k_t_knots, .ref a_t_now, .int k_t_readKnots, .ref a_t_text, .int k_t_length, .ref a_t_covers, .int k_t_reached, .ref a_t_order, .ref a_t_way, .ref a_t_tried, .int 14, .int ((k_t_next + 1) - (k_t_next + 1) / 14 * 14), .ref a_t_row, .ref a_t_lids, .ref a_t_shown, .int k_t_seen, .ref a_t_seenKnot, .ref a_t_seenLid, .ref a_t_seenHad, .long k_t_seed, .ref a_t_isKept, .ref a_t_kept])), (a_t_now, .inl (cI, 100, .inl f_t_now)), (a_t_row, .inl (cI, 700, .inl w2_f_t_row))] H := hP
          have hD : va_D A [(a_t, .inr (8, [.int k_t_knots, .ref a_t_now, .int k_t_readKnots, .ref a_t_text, .int k_t_length, .ref a_t_covers, .int k_t_reached, .ref a_t_order, .ref a_t_way, .ref a_t_tried, .int 14, .int ((k_t_next + 1) - (k_t_next + 1) / 14 * 14), .ref a_t_row, .ref a_t_lids, .ref a_t_shown, .int k_t_seen, .ref a_t_seenKnot, .ref a_t_seenLid, .ref a_t_seenHad, .long k_t_seed, .ref a_t_isKept, .ref a_t_kept])), (a_t_now, .inl (cI, 100, .inl f_t_now)), (a_t_row, .inl (cI, 700, .inl w2_f_t_row))] := hD
          have hm := Option.some.inj hm
          subst hm
          exact k_vret X rfl dX11_keepAct_71 hP hD hS
        · rw [if_neg c54] at hm
          refine lv_aload_n hx hb dX11_keepAct_57 rfl (lv_at hl 0 rfl) ?_
          refine va_get (D := G) (ci := 8) (v := .int k_t_acts) (C := RX11) (T := TX11) (N := 22) hx hb hts i_X11 hown hK hP 0 rfl rfl 10 (by decide) l_96 (fun _ h9 => h9) rfl dX11_keepAct_58 ?_
          refine lv_iconst (v := 1) hx hb dX11_keepAct_61 (by decide) ?_
          refine lv_iadd hx hb dX11_keepAct_62 ?_
          refine lv_goto (tgt := 68) hx hb dX11_keepAct_63 (by decide) ?_
          refine va_put (D := G) (ci := 8) (v := .int (k_t_acts + 1)) (ty := .int) (C := RX11) (T := TX11) (N := 22) hx hb hts i_X11 tyX11 tyX11_ok nmX11 hown hK hP hD hS 0 rfl rfl 10 (by decide) l_96 (fun _ h9 => h9) rfl (by decide +kernel) rfl rfl (Nat.le_of_ble_eq_true rfl) dX11_keepAct_68 (fun H locs hP hD hS => ?_)
          have hP : va_P G vwCl [(a_t, .inr (8, [.int k_t_knots, .ref a_t_now, .int k_t_readKnots, .ref a_t_text, .int k_t_length, .ref a_t_covers, .int k_t_reached, .ref a_t_order, .ref a_t_way, .ref a_t_tried, .int (k_t_acts + 1), .int ((k_t_next + 1) - (k_t_next + 1) / 14 * 14), .ref a_t_row, .ref a_t_lids, .ref a_t_shown, .int k_t_seen, .ref a_t_seenKnot, .ref a_t_seenLid, .ref a_t_seenHad, .long k_t_seed, .ref a_t_isKept, .ref a_t_kept])), (a_t_now, .inl (cI, 100, .inl f_t_now)), (a_t_row, .inl (cI, 700, .inl w2_f_t_row))] H := hP
          have hD : va_D A [(a_t, .inr (8, [.int k_t_knots, .ref a_t_now, .int k_t_readKnots, .ref a_t_text, .int k_t_length, .ref a_t_covers, .int k_t_reached, .ref a_t_order, .ref a_t_way, .ref a_t_tried, .int (k_t_acts + 1), .int ((k_t_next + 1) - (k_t_next + 1) / 14 * 14), .ref a_t_row, .ref a_t_lids, .ref a_t_shown, .int k_t_seen, .ref a_t_seenKnot, .ref a_t_seenLid, .ref a_t_seenHad, .long k_t_seed, .ref a_t_isKept, .ref a_t_kept])), (a_t_now, .inl (cI, 100, .inl f_t_now)), (a_t_row, .inl (cI, 700, .inl w2_f_t_row))] := hD
          have hm := Option.some.inj hm
          subst hm
          exact k_vret X rfl dX11_keepAct_71 hP hD hS
      refine lv_icmp_ge (tgt := 34) hx hb dX11_keepAct_5 (by decide) (fun c5 => ?_) (fun c5 => ?_)
      · rw [if_pos c5] at hm
        exact h34 _ _ _ hP hD hS (lv_sub hl [0] rfl) hm
      · rw [if_neg c5] at hm
        refine lv_aload_n hx hb dX11_keepAct_8 rfl (lv_at hl 0 rfl) ?_
        refine va_get (D := G) (ci := 8) (v := .ref a_t_row) (C := RX11) (T := TX11) (N := 22) hx hb hts i_X11 hown hK hP 0 rfl rfl 12 (by decide) l_32 (fun _ h9 => h9) rfl dX11_keepAct_9 ?_
        refine lv_bipush (v := 50) hx hb dX11_keepAct_12 (by decide) ?_
        refine lv_aload_n hx hb dX11_keepAct_14 rfl (lv_at hl 0 rfl) ?_
        refine va_get (D := G) (ci := 8) (v := .int k_t_next) (C := RX11) (T := TX11) (N := 22) hx hb hts i_X11 hown hK hP 0 rfl rfl 11 (by decide) l_142 (fun _ h9 => h9) rfl dX11_keepAct_15 ?_
        refine lv_imul hx hb dX11_keepAct_18 ?_
        refine lv_iload_n hx hb dX11_keepAct_19 rfl (lv_at hl 1 rfl) ?_
        refine lv_iadd hx hb dX11_keepAct_20 ?_
        refine lv_aload_n hx hb dX11_keepAct_21 rfl (lv_at hl 0 rfl) ?_
        refine va_get (D := G) (ci := 8) (v := .ref a_t_now) (C := RX11) (T := TX11) (N := 22) hx hb hts i_X11 hown hK hP 0 rfl rfl 1 (by decide) l_13 (fun _ h9 => h9) rfl dX11_keepAct_22 ?_
        refine lv_iload_n hx hb dX11_keepAct_25 rfl (lv_at hl 1 rfl) ?_
        obtain ⟨g26, hm⟩ := gd_some hm
        refine va_iald hx hb hK hP 1 0 rfl rfl (kin_ok g26) dX11_keepAct_26 ?_
        obtain ⟨g27, hm⟩ := gd_some hm
        refine va_iast hx hb hK hP hD hS 2 0 rfl rfl (kin_ok g27) dX11_keepAct_27 (fun H locs hP hD hS => ?_)
        have hP : va_P G vwCl [(a_t, .inr (8, [.int k_t_knots, .ref a_t_now, .int k_t_readKnots, .ref a_t_text, .int k_t_length, .ref a_t_covers, .int k_t_reached, .ref a_t_order, .ref a_t_way, .ref a_t_tried, .int k_t_acts, .int k_t_next, .ref a_t_row, .ref a_t_lids, .ref a_t_shown, .int k_t_seen, .ref a_t_seenKnot, .ref a_t_seenLid, .ref a_t_seenHad, .long k_t_seed, .ref a_t_isKept, .ref a_t_kept])), (a_t_now, .inl (cI, 100, .inl f_t_now)), (a_t_row, .inl (cI, 700, .inl (upd w2_f_t_row (Int32.toNatClampNeg ((50 * k_t_next) + v2_1)) (f_t_now (Int32.toNatClampNeg v2_1)))))] H := hP
        have hD : va_D A [(a_t, .inr (8, [.int k_t_knots, .ref a_t_now, .int k_t_readKnots, .ref a_t_text, .int k_t_length, .ref a_t_covers, .int k_t_reached, .ref a_t_order, .ref a_t_way, .ref a_t_tried, .int k_t_acts, .int k_t_next, .ref a_t_row, .ref a_t_lids, .ref a_t_shown, .int k_t_seen, .ref a_t_seenKnot, .ref a_t_seenLid, .ref a_t_seenHad, .long k_t_seed, .ref a_t_isKept, .ref a_t_kept])), (a_t_now, .inl (cI, 100, .inl f_t_now)), (a_t_row, .inl (cI, 700, .inl (upd w2_f_t_row (Int32.toNatClampNeg ((50 * k_t_next) + v2_1)) (f_t_now (Int32.toNatClampNeg v2_1)))))] := hD
        refine lv_iinc (v := v2_1 + 1) (lv' := [(1, .int (v2_1 + 1)), (0, .ref a_t)]) hx hb dX11_keepAct_28 hl (k := 1) rfl rfl (by decide) rfl (fun ls hl => ?_)
        refine lv_goto (tgt := 2) hx hb dX11_keepAct_31 (by decide) ?_
        exact ih2 (v2_1 + 1) (upd w2_f_t_row (Int32.toNatClampNeg ((50 * k_t_next) + v2_1)) (f_t_now (Int32.toNatClampNeg v2_1))) _ _ _ hP hD hS (lv_sub hl [1, 0] rfl) hm
  exact h2 kFU 0 f_t_row _ _ _ hP hD hS (lv_sub hl [1, 0] rfl) hm
theorem hd_X11_keepAct : yX11_keepAct.cls = RX11 ∧ yX11_keepAct.cls ≠ "java/lang/invoke/MethodHandle" ∧ yX11_keepAct.cls ≠ "java/lang/invoke/VarHandle" ∧ (parseMethodDescriptor yX11_keepAct.desc).map (fun d => d.parameters.length) = some 0 := by decide +kernel
/-! CoverOrderModel insert -/
set_option maxRecDepth 100000 in
set_option maxHeartbeats 4000000 in
theorem c_X11_insert (l : Launch) (G : va_G) (cI cZ cE : ClassId) (a_t a_t_now a_t_text a_t_covers a_t_order a_t_way a_t_tried a_t_row a_t_lids a_t_shown a_t_seenKnot a_t_seenLid a_t_seenHad a_t_isKept a_t_kept : Nat) (k_t_knots : Int32) (k_t_readKnots : Int32) (k_t_length : Int32) (k_t_reached : Int32) (k_t_acts : Int32) (k_t_next : Int32) (k_t_seen : Int32) (k_t_seed : Int64) (f_t_now : Nat → Int32) (f_t_row : Nat → Int32) (p1 : Int32) (p2 : Int32) (R : Int32 × Int32 × Int32 × (Nat → Int32) × (Nat → Int32)) (hm : mX11_insert k_t_knots k_t_acts k_t_next f_t_now f_t_row p1 p2 = some R) : kM l yX11_insert wsX11_insert { frames := 2, cells := 0, slots := 0, locals := 46 } G cI cZ cE [.ref a_t, .int p1, .int p2] [(a_t, .inr (8, [.int k_t_knots, .ref a_t_now, .int k_t_readKnots, .ref a_t_text, .int k_t_length, .ref a_t_covers, .int k_t_reached, .ref a_t_order, .ref a_t_way, .ref a_t_tried, .int k_t_acts, .int k_t_next, .ref a_t_row, .ref a_t_lids, .ref a_t_shown, .int k_t_seen, .ref a_t_seenKnot, .ref a_t_seenLid, .ref a_t_seenHad, .long k_t_seed, .ref a_t_isKept, .ref a_t_kept])), (a_t_now, .inl (cI, 100, .inl f_t_now)), (a_t_row, .inl (cI, 700, .inl f_t_row))] [(a_t, .inr (8, [.int k_t_knots, .ref a_t_now, .int k_t_readKnots, .ref a_t_text, .int k_t_length, .ref a_t_covers, .int k_t_reached, .ref a_t_order, .ref a_t_way, .ref a_t_tried, .int R.2.1, .int R.2.2.1, .ref a_t_row, .ref a_t_lids, .ref a_t_shown, .int k_t_seen, .ref a_t_seenKnot, .ref a_t_seenLid, .ref a_t_seenHad, .long k_t_seed, .ref a_t_isKept, .ref a_t_kept])), (a_t_now, .inl (cI, 100, .inl R.2.2.2.1)), (a_t_row, .inl (cI, 700, .inl R.2.2.2.2))] (some (.int R.1)) := by
  refine kM_of cX11_insert 3 (some .int) RX11 (by decide) rfl rfl (Nat.le_of_ble_eq_true rfl) ?_
  intro p e s m below meth c A ls X hA hP hD hS hl
  have hx := X.1.1
  have hb := X.1.2.1
  have hts := X.1.2.2.2.2
  have hown := X.1.2.2.2.1
  have hK := X.2.2.2.1
  have l_13 : (.fieldLink RX11 13 "CoverOrderModel" "now" "[I" : Cond).before _ s = true := hts _ (List.mem_of_getElem? (i := 1) (by decide +kernel))
  have i_X11 : ∀ w ∈ u_ws RX11 TX11 22, w ∈ wsX11_insert := k_in _ [30, 31, 32, 33, 34, 35, 36, 37, 38, 39, 40, 41, 42, 43, 44, 45, 46, 47, 48, 49, 50, 51] (by decide +kernel)
  have hl : lv_has ls 3 [(0, .ref a_t), (1, .int p1), (2, .int p2)] := hl
  rw [mX11_insert] at hm
  refine lv_aload_n hx hb dX11_insert_0 rfl (lv_at hl 0 rfl) ?_
  refine lv_iload_n hx hb dX11_insert_1 rfl (lv_at hl 1 rfl) ?_
  refine kcV0 (st1 := [.int (bI (mX11_isKnot k_t_knots p1))]) X hA (c_X11_isKnot l G cI cZ cE a_t a_t_now a_t_text a_t_covers a_t_order a_t_way a_t_tried a_t_row a_t_lids a_t_shown a_t_seenKnot a_t_seenLid a_t_seenHad a_t_isKept a_t_kept k_t_knots k_t_readKnots k_t_length k_t_reached k_t_acts k_t_next k_t_seen k_t_seed p1 _ rfl) (cwV 1 hts gX11_insert_X11_isKnot rfl rfl rfl hd_X11_isKnot ⟨Nat.le_of_ble_eq_true rfl, Nat.le_of_ble_eq_true rfl⟩) 0 8 rfl rfl hl.1 dX11_insert_2 hP hD hS [0] rfl rfl rfl [] rfl (Nat.le_of_ble_eq_true rfl) rfl ⟨Nat.zero_le _, Nat.zero_le _⟩ (fun H locs hP hD hS => ?_)
  refine lv_if_eq (tgt := 16) hx hb dX11_insert_5 (by decide) (fun c5 => ?_) (fun c5 => ?_)
  · have c5 := kb0 c5
    rw [if_neg c5] at hm
    refine lv_iconst (v := (-1)) hx hb dX11_insert_16 (by decide) ?_
    have hm := Option.some.inj hm
    subst hm
    exact k_iret (v := (-1)) X rfl dX11_insert_17 hP hD hS
  · have c5 := kb1 c5
    rw [if_pos c5] at hm
    refine lv_aload_n hx hb dX11_insert_8 rfl (lv_at hl 0 rfl) ?_
    refine lv_iload_n hx hb dX11_insert_9 rfl (lv_at hl 2 rfl) ?_
    refine kcV0 (st1 := [.int (bI (mX11_isKnot k_t_knots p2))]) X hA (c_X11_isKnot l G cI cZ cE a_t a_t_now a_t_text a_t_covers a_t_order a_t_way a_t_tried a_t_row a_t_lids a_t_shown a_t_seenKnot a_t_seenLid a_t_seenHad a_t_isKept a_t_kept k_t_knots k_t_readKnots k_t_length k_t_reached k_t_acts k_t_next k_t_seen k_t_seed p2 _ rfl) (cwV 1 hts gX11_insert_X11_isKnot rfl rfl rfl hd_X11_isKnot ⟨Nat.le_of_ble_eq_true rfl, Nat.le_of_ble_eq_true rfl⟩) 0 8 rfl rfl hl.1 dX11_insert_10 hP hD hS [0] rfl rfl rfl [] rfl (Nat.le_of_ble_eq_true rfl) rfl ⟨Nat.zero_le _, Nat.zero_le _⟩ (fun H locs hP hD hS => ?_)
    refine lv_if_ne (tgt := 18) hx hb dX11_insert_13 (by decide) (fun c13 => ?_) (fun c13 => ?_)
    · have c13 := kb1 c13
      rw [if_pos c13] at hm
      refine lv_iload_n hx hb dX11_insert_18 rfl (lv_at hl 1 rfl) ?_
      refine lv_iload_n hx hb dX11_insert_19 rfl (lv_at hl 2 rfl) ?_
      refine lv_icmp_ne (tgt := 26) hx hb dX11_insert_20 (by decide) (fun c20 => ?_) (fun c20 => ?_)
      · rw [if_neg c20] at hm
        refine lv_aload_n hx hb dX11_insert_26 rfl (lv_at hl 0 rfl) ?_
        refine lv_iconst (v := 0) hx hb dX11_insert_27 (by decide) ?_
        refine lv_iload_n hx hb dX11_insert_28 rfl (lv_at hl 1 rfl) ?_
        refine lv_iload_n hx hb dX11_insert_29 rfl (lv_at hl 2 rfl) ?_
        obtain ⟨r30, hc30, hm⟩ := kbind hm
        refine kcV0 (st1 := [.int r30]) X hA (c_X11_find l G cI cZ cE a_t a_t_now a_t_text a_t_covers a_t_order a_t_way a_t_tried a_t_row a_t_lids a_t_shown a_t_seenKnot a_t_seenLid a_t_seenHad a_t_isKept a_t_kept k_t_knots k_t_readKnots k_t_length k_t_reached k_t_acts k_t_next k_t_seen k_t_seed f_t_now 0 p1 p2 r30 hc30) (cwV 3 hts gX11_insert_X11_find rfl rfl rfl hd_X11_find ⟨Nat.le_of_ble_eq_true rfl, Nat.le_of_ble_eq_true rfl⟩) 0 8 rfl rfl hl.1 dX11_insert_30 hP hD hS [0, 1] rfl rfl rfl [] rfl (Nat.le_of_ble_eq_true rfl) rfl ⟨Nat.zero_le _, Nat.zero_le _⟩ (fun H locs hP hD hS => ?_)
        refine lv_bipush (v := (-9)) hx hb dX11_insert_33 (by decide) ?_
        refine lv_icmp_eq (tgt := 41) hx hb dX11_insert_35 (by decide) (fun c35 => ?_) (fun c35 => ?_)
        · rw [if_pos c35] at hm
          refine lv_aload_n hx hb dX11_insert_41 rfl (lv_at hl 0 rfl) ?_
          refine lv_iconst (v := 0) hx hb dX11_insert_42 (by decide) ?_
          obtain ⟨r43, hc43, hm⟩ := kbind hm
          refine kcV0 (st1 := [.int r43]) X hA (c_X11_many l G cI cZ cE a_t a_t_now a_t_text a_t_covers a_t_order a_t_way a_t_tried a_t_row a_t_lids a_t_shown a_t_seenKnot a_t_seenLid a_t_seenHad a_t_isKept a_t_kept k_t_knots k_t_readKnots k_t_length k_t_reached k_t_acts k_t_next k_t_seen k_t_seed f_t_now 0 r43 hc43) (cwV 1 hts gX11_insert_X11_many rfl rfl rfl hd_X11_many ⟨Nat.le_of_ble_eq_true rfl, Nat.le_of_ble_eq_true rfl⟩) 0 8 rfl rfl hl.1 dX11_insert_43 hP hD hS [0, 1] rfl rfl rfl [] rfl (Nat.le_of_ble_eq_true rfl) rfl ⟨Nat.zero_le _, Nat.zero_le _⟩ (fun H locs hP hD hS => ?_)
          refine lv_bipush (v := 24) hx hb dX11_insert_46 (by decide) ?_
          refine lv_icmp_ne (tgt := 54) hx hb dX11_insert_48 (by decide) (fun c48 => ?_) (fun c48 => ?_)
          · rw [if_neg c48] at hm
            refine lv_aload_n hx hb dX11_insert_54 rfl (lv_at hl 0 rfl) ?_
            obtain ⟨r55, hc55, hm⟩ := kbind hm
            refine kcV (ws1 := [(a_t, .inr (8, [.int k_t_knots, .ref a_t_now, .int k_t_readKnots, .ref a_t_text, .int k_t_length, .ref a_t_covers, .int k_t_reached, .ref a_t_order, .ref a_t_way, .ref a_t_tried, .int r55.1, .int r55.2.1, .ref a_t_row, .ref a_t_lids, .ref a_t_shown, .int k_t_seen, .ref a_t_seenKnot, .ref a_t_seenLid, .ref a_t_seenHad, .long k_t_seed, .ref a_t_isKept, .ref a_t_kept])), (a_t_now, .inl (cI, 100, .inl f_t_now)), (a_t_row, .inl (cI, 700, .inl r55.2.2))]) (st1 := []) X hA (c_X11_keepAct l G cI cZ cE a_t a_t_now a_t_text a_t_covers a_t_order a_t_way a_t_tried a_t_row a_t_lids a_t_shown a_t_seenKnot a_t_seenLid a_t_seenHad a_t_isKept a_t_kept k_t_knots k_t_readKnots k_t_length k_t_reached k_t_acts k_t_next k_t_seen k_t_seed f_t_now f_t_row r55 hc55) (cwV 0 hts gX11_insert_X11_keepAct rfl rfl rfl hd_X11_keepAct ⟨Nat.le_of_ble_eq_true rfl, Nat.le_of_ble_eq_true rfl⟩) 0 8 rfl rfl hl.1 dX11_insert_55 hP hD hS [0, 1, 2] rfl rfl rfl rfl rfl [] rfl (Nat.le_of_ble_eq_true rfl) rfl ⟨Nat.zero_le _, Nat.zero_le _⟩ (fun H locs hP hD hS => ?_)
            refine lv_aload_n hx hb dX11_insert_58 rfl (lv_at hl 0 rfl) ?_
            refine lv_iconst (v := 0) hx hb dX11_insert_59 (by decide) ?_
            refine lv_iload_n hx hb dX11_insert_60 rfl (lv_at hl 1 rfl) ?_
            refine lv_iload_n hx hb dX11_insert_61 rfl (lv_at hl 2 rfl) ?_
            obtain ⟨r62, hc62, hm⟩ := kbind hm
            refine kcV (ws1 := [(a_t, .inr (8, [.int k_t_knots, .ref a_t_now, .int k_t_readKnots, .ref a_t_text, .int k_t_length, .ref a_t_covers, .int k_t_reached, .ref a_t_order, .ref a_t_way, .ref a_t_tried, .int r55.1, .int r55.2.1, .ref a_t_row, .ref a_t_lids, .ref a_t_shown, .int k_t_seen, .ref a_t_seenKnot, .ref a_t_seenLid, .ref a_t_seenHad, .long k_t_seed, .ref a_t_isKept, .ref a_t_kept])), (a_t_now, .inl (cI, 100, .inl r62)), (a_t_row, .inl (cI, 700, .inl r55.2.2))]) (st1 := []) X hA (c_X11_insertOn l G cI cZ cE a_t a_t_now a_t_text a_t_covers a_t_order a_t_way a_t_tried a_t_row a_t_lids a_t_shown a_t_seenKnot a_t_seenLid a_t_seenHad a_t_isKept a_t_kept k_t_knots k_t_readKnots k_t_length k_t_reached r55.1 r55.2.1 k_t_seen k_t_seed f_t_now 0 p1 p2 r62 hc62) (cwV 3 hts gX11_insert_X11_insertOn rfl rfl rfl hd_X11_insertOn ⟨Nat.le_of_ble_eq_true rfl, Nat.le_of_ble_eq_true rfl⟩) 0 8 rfl rfl hl.1 dX11_insert_62 hP hD hS [0, 1] rfl rfl rfl rfl rfl [] rfl (Nat.le_of_ble_eq_true rfl) rfl ⟨Nat.zero_le _, Nat.zero_le _⟩ (fun H locs hP hD hS => ?_)
            refine lv_aload_n hx hb dX11_insert_65 rfl (lv_at hl 0 rfl) ?_
            refine va_get (D := G) (ci := 8) (v := .ref a_t_now) (C := RX11) (T := TX11) (N := 22) hx hb hts i_X11 hown hK hP 0 rfl rfl 1 (by decide) l_13 (fun _ h9 => h9) rfl dX11_insert_66 ?_
            refine lv_iconst (v := 1) hx hb dX11_insert_69 (by decide) ?_
            refine va_iald hx hb hK hP 1 0 rfl rfl (kin_ok (by decide)) dX11_insert_70 ?_
            refine lv_iconst (v := 1) hx hb dX11_insert_71 (by decide) ?_
            refine lv_isub hx hb dX11_insert_72 ?_
            have hm := Option.some.inj hm
            subst hm
            exact k_iret (v := (r62 (Int32.toNatClampNeg 1)) - 1) X rfl dX11_insert_73 hP hD hS
          · rw [if_pos c48] at hm
            refine lv_bipush (v := (-4)) hx hb dX11_insert_51 (by decide) ?_
            have hm := Option.some.inj hm
            subst hm
            exact k_iret (v := (-4)) X rfl dX11_insert_53 hP hD hS
        · rw [if_neg c35] at hm
          refine lv_bipush (v := (-3)) hx hb dX11_insert_38 (by decide) ?_
          have hm := Option.some.inj hm
          subst hm
          exact k_iret (v := (-3)) X rfl dX11_insert_40 hP hD hS
      · rw [if_pos c20] at hm
        refine lv_bipush (v := (-2)) hx hb dX11_insert_23 (by decide) ?_
        have hm := Option.some.inj hm
        subst hm
        exact k_iret (v := (-2)) X rfl dX11_insert_25 hP hD hS
    · have c13 := kb0 c13
      rw [if_neg c13] at hm
      refine lv_iconst (v := (-1)) hx hb dX11_insert_16 (by decide) ?_
      have hm := Option.some.inj hm
      subst hm
      exact k_iret (v := (-1)) X rfl dX11_insert_17 hP hD hS
theorem hd_X11_insert : yX11_insert.cls = RX11 ∧ yX11_insert.cls ≠ "java/lang/invoke/MethodHandle" ∧ yX11_insert.cls ≠ "java/lang/invoke/VarHandle" ∧ (parseMethodDescriptor yX11_insert.desc).map (fun d => d.parameters.length) = some 2 := by decide +kernel
/-! CoverOrderModel delete -/
set_option maxRecDepth 100000 in
set_option maxHeartbeats 4000000 in
theorem c_X11_delete (l : Launch) (G : va_G) (cI cZ cE : ClassId) (a_t a_t_now a_t_text a_t_covers a_t_order a_t_way a_t_tried a_t_row a_t_lids a_t_shown a_t_seenKnot a_t_seenLid a_t_seenHad a_t_isKept a_t_kept : Nat) (k_t_knots : Int32) (k_t_readKnots : Int32) (k_t_length : Int32) (k_t_reached : Int32) (k_t_acts : Int32) (k_t_next : Int32) (k_t_seen : Int32) (k_t_seed : Int64) (f_t_now : Nat → Int32) (f_t_row : Nat → Int32) (p1 : Int32) (p2 : Int32) (R : Int32 × Int32 × Int32 × (Nat → Int32) × (Nat → Int32)) (hm : mX11_delete k_t_knots k_t_acts k_t_next f_t_now f_t_row p1 p2 = some R) : kM l yX11_delete wsX11_delete { frames := 2, cells := 0, slots := 0, locals := 46 } G cI cZ cE [.ref a_t, .int p1, .int p2] [(a_t, .inr (8, [.int k_t_knots, .ref a_t_now, .int k_t_readKnots, .ref a_t_text, .int k_t_length, .ref a_t_covers, .int k_t_reached, .ref a_t_order, .ref a_t_way, .ref a_t_tried, .int k_t_acts, .int k_t_next, .ref a_t_row, .ref a_t_lids, .ref a_t_shown, .int k_t_seen, .ref a_t_seenKnot, .ref a_t_seenLid, .ref a_t_seenHad, .long k_t_seed, .ref a_t_isKept, .ref a_t_kept])), (a_t_now, .inl (cI, 100, .inl f_t_now)), (a_t_row, .inl (cI, 700, .inl f_t_row))] [(a_t, .inr (8, [.int k_t_knots, .ref a_t_now, .int k_t_readKnots, .ref a_t_text, .int k_t_length, .ref a_t_covers, .int k_t_reached, .ref a_t_order, .ref a_t_way, .ref a_t_tried, .int R.2.1, .int R.2.2.1, .ref a_t_row, .ref a_t_lids, .ref a_t_shown, .int k_t_seen, .ref a_t_seenKnot, .ref a_t_seenLid, .ref a_t_seenHad, .long k_t_seed, .ref a_t_isKept, .ref a_t_kept])), (a_t_now, .inl (cI, 100, .inl R.2.2.2.1)), (a_t_row, .inl (cI, 700, .inl R.2.2.2.2))] (some (.int R.1)) := by
  refine kM_of cX11_delete 5 (some .int) RX11 (by decide) rfl rfl (Nat.le_of_ble_eq_true rfl) ?_
  intro p e s m below meth c A ls X hA hP hD hS hl
  have hx := X.1.1
  have hb := X.1.2.1
  have hts := X.1.2.2.2.2
  have hown := X.1.2.2.2.1
  have hK := X.2.2.2.1
  have l_13 : (.fieldLink RX11 13 "CoverOrderModel" "now" "[I" : Cond).before _ s = true := hts _ (List.mem_of_getElem? (i := 1) (by decide +kernel))
  have i_X11 : ∀ w ∈ u_ws RX11 TX11 22, w ∈ wsX11_delete := k_in _ [30, 31, 32, 33, 34, 35, 36, 37, 38, 39, 40, 41, 42, 43, 44, 45, 46, 47, 48, 49, 50, 51] (by decide +kernel)
  have hl : lv_has ls 5 [(0, .ref a_t), (1, .int p1), (2, .int p2)] := hl
  rw [mX11_delete] at hm
  refine lv_aload_n hx hb dX11_delete_0 rfl (lv_at hl 0 rfl) ?_
  refine lv_iload_n hx hb dX11_delete_1 rfl (lv_at hl 1 rfl) ?_
  refine kcV0 (st1 := [.int (bI (mX11_isKnot k_t_knots p1))]) X hA (c_X11_isKnot l G cI cZ cE a_t a_t_now a_t_text a_t_covers a_t_order a_t_way a_t_tried a_t_row a_t_lids a_t_shown a_t_seenKnot a_t_seenLid a_t_seenHad a_t_isKept a_t_kept k_t_knots k_t_readKnots k_t_length k_t_reached k_t_acts k_t_next k_t_seen k_t_seed p1 _ rfl) (cwV 1 hts gX11_delete_X11_isKnot rfl rfl rfl hd_X11_isKnot ⟨Nat.le_of_ble_eq_true rfl, Nat.le_of_ble_eq_true rfl⟩) 0 8 rfl rfl hl.1 dX11_delete_2 hP hD hS [0] rfl rfl rfl [] rfl (Nat.le_of_ble_eq_true rfl) rfl ⟨Nat.zero_le _, Nat.zero_le _⟩ (fun H locs hP hD hS => ?_)
  refine lv_if_eq (tgt := 16) hx hb dX11_delete_5 (by decide) (fun c5 => ?_) (fun c5 => ?_)
  · have c5 := kb0 c5
    rw [if_neg c5] at hm
    refine lv_iconst (v := (-1)) hx hb dX11_delete_16 (by decide) ?_
    have hm := Option.some.inj hm
    subst hm
    exact k_iret (v := (-1)) X rfl dX11_delete_17 hP hD hS
  · have c5 := kb1 c5
    rw [if_pos c5] at hm
    refine lv_aload_n hx hb dX11_delete_8 rfl (lv_at hl 0 rfl) ?_
    refine lv_iload_n hx hb dX11_delete_9 rfl (lv_at hl 2 rfl) ?_
    refine kcV0 (st1 := [.int (bI (mX11_isKnot k_t_knots p2))]) X hA (c_X11_isKnot l G cI cZ cE a_t a_t_now a_t_text a_t_covers a_t_order a_t_way a_t_tried a_t_row a_t_lids a_t_shown a_t_seenKnot a_t_seenLid a_t_seenHad a_t_isKept a_t_kept k_t_knots k_t_readKnots k_t_length k_t_reached k_t_acts k_t_next k_t_seen k_t_seed p2 _ rfl) (cwV 1 hts gX11_delete_X11_isKnot rfl rfl rfl hd_X11_isKnot ⟨Nat.le_of_ble_eq_true rfl, Nat.le_of_ble_eq_true rfl⟩) 0 8 rfl rfl hl.1 dX11_delete_10 hP hD hS [0] rfl rfl rfl [] rfl (Nat.le_of_ble_eq_true rfl) rfl ⟨Nat.zero_le _, Nat.zero_le _⟩ (fun H locs hP hD hS => ?_)
    refine lv_if_ne (tgt := 18) hx hb dX11_delete_13 (by decide) (fun c13 => ?_) (fun c13 => ?_)
    · have c13 := kb1 c13
      rw [if_pos c13] at hm
      refine lv_aload_n hx hb dX11_delete_18 rfl (lv_at hl 0 rfl) ?_
      refine lv_iconst (v := 0) hx hb dX11_delete_19 (by decide) ?_
      refine lv_iload_n hx hb dX11_delete_20 rfl (lv_at hl 1 rfl) ?_
      refine lv_iload_n hx hb dX11_delete_21 rfl (lv_at hl 2 rfl) ?_
      obtain ⟨r22, hc22, hm⟩ := kbind hm
      refine kcV0 (st1 := [.int r22]) X hA (c_X11_find l G cI cZ cE a_t a_t_now a_t_text a_t_covers a_t_order a_t_way a_t_tried a_t_row a_t_lids a_t_shown a_t_seenKnot a_t_seenLid a_t_seenHad a_t_isKept a_t_kept k_t_knots k_t_readKnots k_t_length k_t_reached k_t_acts k_t_next k_t_seen k_t_seed f_t_now 0 p1 p2 r22 hc22) (cwV 3 hts gX11_delete_X11_find rfl rfl rfl hd_X11_find ⟨Nat.le_of_ble_eq_true rfl, Nat.le_of_ble_eq_true rfl⟩) 0 8 rfl rfl hl.1 dX11_delete_22 hP hD hS [0, 1] rfl rfl rfl [] rfl (Nat.le_of_ble_eq_true rfl) rfl ⟨Nat.zero_le _, Nat.zero_le _⟩ (fun H locs hP hD hS => ?_)
      refine lv_istore_n (lv' := [(3, .int r22), (0, .ref a_t), (1, .int p1), (2, .int p2)]) hx hb dX11_delete_25 rfl hl (by decide) rfl (fun ls hl => ?_)
      refine lv_iload_n hx hb dX11_delete_26 rfl (lv_at hl 0 rfl) ?_
      refine lv_bipush (v := (-9)) hx hb dX11_delete_27 (by decide) ?_
      refine lv_icmp_ne (tgt := 35) hx hb dX11_delete_29 (by decide) (fun c29 => ?_) (fun c29 => ?_)
      · rw [if_neg c29] at hm
        refine lv_aload_n hx hb dX11_delete_35 rfl (lv_at hl 1 rfl) ?_
        obtain ⟨r36, hc36, hm⟩ := kbind hm
        refine kcV (ws1 := [(a_t, .inr (8, [.int k_t_knots, .ref a_t_now, .int k_t_readKnots, .ref a_t_text, .int k_t_length, .ref a_t_covers, .int k_t_reached, .ref a_t_order, .ref a_t_way, .ref a_t_tried, .int r36.1, .int r36.2.1, .ref a_t_row, .ref a_t_lids, .ref a_t_shown, .int k_t_seen, .ref a_t_seenKnot, .ref a_t_seenLid, .ref a_t_seenHad, .long k_t_seed, .ref a_t_isKept, .ref a_t_kept])), (a_t_now, .inl (cI, 100, .inl f_t_now)), (a_t_row, .inl (cI, 700, .inl r36.2.2))]) (st1 := []) X hA (c_X11_keepAct l G cI cZ cE a_t a_t_now a_t_text a_t_covers a_t_order a_t_way a_t_tried a_t_row a_t_lids a_t_shown a_t_seenKnot a_t_seenLid a_t_seenHad a_t_isKept a_t_kept k_t_knots k_t_readKnots k_t_length k_t_reached k_t_acts k_t_next k_t_seen k_t_seed f_t_now f_t_row r36 hc36) (cwV 0 hts gX11_delete_X11_keepAct rfl rfl rfl hd_X11_keepAct ⟨Nat.le_of_ble_eq_true rfl, Nat.le_of_ble_eq_true rfl⟩) 0 8 rfl rfl hl.1 dX11_delete_36 hP hD hS [0, 1, 2] rfl rfl rfl rfl rfl [] rfl (Nat.le_of_ble_eq_true rfl) rfl ⟨Nat.zero_le _, Nat.zero_le _⟩ (fun H locs hP hD hS => ?_)
        refine lv_aload_n hx hb dX11_delete_39 rfl (lv_at hl 1 rfl) ?_
        refine va_get (D := G) (ci := 8) (v := .ref a_t_now) (C := RX11) (T := TX11) (N := 22) hx hb hts i_X11 hown hK hP 0 rfl rfl 1 (by decide) l_13 (fun _ h9 => h9) rfl dX11_delete_40 ?_
        refine lv_bipush (v := 26) hx hb dX11_delete_43 (by decide) ?_
        refine lv_iload_n hx hb dX11_delete_45 rfl (lv_at hl 0 rfl) ?_
        refine lv_iadd hx hb dX11_delete_46 ?_
        obtain ⟨g47, hm⟩ := gd_some hm
        refine va_iald hx hb hK hP 1 0 rfl rfl (kin_ok g47) dX11_delete_47 ?_
        refine lv_istore (lv' := [(4, .int (f_t_now (Int32.toNatClampNeg (26 + r22)))), (3, .int r22), (0, .ref a_t), (1, .int p1), (2, .int p2)]) hx hb dX11_delete_48 hl (by decide) rfl (fun ls hl => ?_)
        refine lv_aload_n hx hb dX11_delete_50 rfl (lv_at hl 2 rfl) ?_
        refine lv_iconst (v := 0) hx hb dX11_delete_51 (by decide) ?_
        refine lv_iload_n hx hb dX11_delete_52 rfl (lv_at hl 1 rfl) ?_
        obtain ⟨r53, hc53, hm⟩ := kbind hm
        refine kcV (ws1 := [(a_t, .inr (8, [.int k_t_knots, .ref a_t_now, .int k_t_readKnots, .ref a_t_text, .int k_t_length, .ref a_t_covers, .int k_t_reached, .ref a_t_order, .ref a_t_way, .ref a_t_tried, .int r36.1, .int r36.2.1, .ref a_t_row, .ref a_t_lids, .ref a_t_shown, .int k_t_seen, .ref a_t_seenKnot, .ref a_t_seenLid, .ref a_t_seenHad, .long k_t_seed, .ref a_t_isKept, .ref a_t_kept])), (a_t_now, .inl (cI, 100, .inl r53)), (a_t_row, .inl (cI, 700, .inl r36.2.2))]) (st1 := []) X hA (c_X11_deleteOn l G cI cZ cE a_t a_t_now a_t_text a_t_covers a_t_order a_t_way a_t_tried a_t_row a_t_lids a_t_shown a_t_seenKnot a_t_seenLid a_t_seenHad a_t_isKept a_t_kept k_t_knots k_t_readKnots k_t_length k_t_reached r36.1 r36.2.1 k_t_seen k_t_seed f_t_now 0 r22 r53 hc53) (cwV 2 hts gX11_delete_X11_deleteOn rfl rfl rfl hd_X11_deleteOn ⟨Nat.le_of_ble_eq_true rfl, Nat.le_of_ble_eq_true rfl⟩) 0 8 rfl rfl hl.1 dX11_delete_53 hP hD hS [0, 1] rfl rfl rfl rfl rfl [] rfl (Nat.le_of_ble_eq_true rfl) rfl ⟨Nat.zero_le _, Nat.zero_le _⟩ (fun H locs hP hD hS => ?_)
        refine lv_iload hx hb dX11_delete_56 (lv_at hl 0 rfl) ?_
        have hm := Option.some.inj hm
        subst hm
        exact k_iret (v := f_t_now (Int32.toNatClampNeg (26 + r22))) X rfl dX11_delete_58 hP hD hS
      · rw [if_pos c29] at hm
        refine lv_bipush (v := (-3)) hx hb dX11_delete_32 (by decide) ?_
        have hm := Option.some.inj hm
        subst hm
        exact k_iret (v := (-3)) X rfl dX11_delete_34 hP hD hS
    · have c13 := kb0 c13
      rw [if_neg c13] at hm
      refine lv_iconst (v := (-1)) hx hb dX11_delete_16 (by decide) ?_
      have hm := Option.some.inj hm
      subst hm
      exact k_iret (v := (-1)) X rfl dX11_delete_17 hP hD hS
theorem hd_X11_delete : yX11_delete.cls = RX11 ∧ yX11_delete.cls ≠ "java/lang/invoke/MethodHandle" ∧ yX11_delete.cls ≠ "java/lang/invoke/VarHandle" ∧ (parseMethodDescriptor yX11_delete.desc).map (fun d => d.parameters.length) = some 2 := by decide +kernel
/-! CoverOrderModel undo -/
set_option maxRecDepth 100000 in
set_option maxHeartbeats 4000000 in
theorem c_X11_undo (l : Launch) (G : va_G) (cI cZ cE : ClassId) (a_t a_t_now a_t_text a_t_covers a_t_order a_t_way a_t_tried a_t_row a_t_lids a_t_shown a_t_seenKnot a_t_seenLid a_t_seenHad a_t_isKept a_t_kept : Nat) (k_t_knots : Int32) (k_t_readKnots : Int32) (k_t_length : Int32) (k_t_reached : Int32) (k_t_acts : Int32) (k_t_next : Int32) (k_t_seen : Int32) (k_t_seed : Int64) (f_t_now : Nat → Int32) (f_t_row : Nat → Int32) (R : Int32 × Int32 × Int32 × (Nat → Int32)) (hm : mX11_undo k_t_acts k_t_next f_t_now f_t_row = some R) : kM l yX11_undo wsX11_undo { frames := 0, cells := 0, slots := 0, locals := 0 } G cI cZ cE [.ref a_t] [(a_t, .inr (8, [.int k_t_knots, .ref a_t_now, .int k_t_readKnots, .ref a_t_text, .int k_t_length, .ref a_t_covers, .int k_t_reached, .ref a_t_order, .ref a_t_way, .ref a_t_tried, .int k_t_acts, .int k_t_next, .ref a_t_row, .ref a_t_lids, .ref a_t_shown, .int k_t_seen, .ref a_t_seenKnot, .ref a_t_seenLid, .ref a_t_seenHad, .long k_t_seed, .ref a_t_isKept, .ref a_t_kept])), (a_t_now, .inl (cI, 100, .inl f_t_now)), (a_t_row, .inl (cI, 700, .inl f_t_row))] [(a_t, .inr (8, [.int k_t_knots, .ref a_t_now, .int k_t_readKnots, .ref a_t_text, .int k_t_length, .ref a_t_covers, .int k_t_reached, .ref a_t_order, .ref a_t_way, .ref a_t_tried, .int R.2.1, .int R.2.2.1, .ref a_t_row, .ref a_t_lids, .ref a_t_shown, .int k_t_seen, .ref a_t_seenKnot, .ref a_t_seenLid, .ref a_t_seenHad, .long k_t_seed, .ref a_t_isKept, .ref a_t_kept])), (a_t_now, .inl (cI, 100, .inl R.2.2.2)), (a_t_row, .inl (cI, 700, .inl f_t_row))] (some (.int R.1)) := by
  refine kM_of cX11_undo 2 (some .int) RX11 (by decide) rfl rfl (Nat.le_of_ble_eq_true rfl) ?_
  intro p e s m below meth c A ls X hA hP hD hS hl
  have hx := X.1.1
  have hb := X.1.2.1
  have hts := X.1.2.2.2.2
  have hown := X.1.2.2.2.1
  have hK := X.2.2.2.1
  have l_96 : (.fieldLink RX11 96 "CoverOrderModel" "acts" "I" : Cond).before _ s = true := hts _ (List.mem_of_getElem? (i := 1) (by decide +kernel))
  have i_X11 : ∀ w ∈ u_ws RX11 TX11 22, w ∈ wsX11_undo := k_in _ [5, 6, 7, 8, 9, 10, 11, 12, 13, 14, 15, 16, 17, 18, 19, 20, 21, 22, 23, 24, 25, 26] (by decide +kernel)
  have l_142 : (.fieldLink RX11 142 "CoverOrderModel" "next" "I" : Cond).before _ s = true := hts _ (List.mem_of_getElem? (i := 2) (by decide +kernel))
  have l_13 : (.fieldLink RX11 13 "CoverOrderModel" "now" "[I" : Cond).before _ s = true := hts _ (List.mem_of_getElem? (i := 3) (by decide +kernel))
  have l_32 : (.fieldLink RX11 32 "CoverOrderModel" "row" "[I" : Cond).before _ s = true := hts _ (List.mem_of_getElem? (i := 4) (by decide +kernel))
  have hl : lv_has ls 2 [(0, .ref a_t)] := hl
  rw [mX11_undo] at hm
  refine lv_aload_n hx hb dX11_undo_0 rfl (lv_at hl 0 rfl) ?_
  refine va_get (D := G) (ci := 8) (v := .int k_t_acts) (C := RX11) (T := TX11) (N := 22) hx hb hts i_X11 hown hK hP 0 rfl rfl 10 (by decide) l_96 (fun _ h9 => h9) rfl dX11_undo_1 ?_
  refine lv_if_ne (tgt := 10) hx hb dX11_undo_4 (by decide) (fun c4 => ?_) (fun c4 => ?_)
  · rw [if_neg c4] at hm
    refine lv_aload_n hx hb dX11_undo_10 rfl (lv_at hl 0 rfl) ?_
    refine lv_dup hx hb dX11_undo_11 rfl ?_
    refine va_get (D := G) (ci := 8) (v := .int k_t_acts) (C := RX11) (T := TX11) (N := 22) hx hb hts i_X11 hown hK hP 0 rfl rfl 10 (by decide) l_96 (fun _ h9 => h9) rfl dX11_undo_12 ?_
    refine lv_iconst (v := 1) hx hb dX11_undo_15 (by decide) ?_
    refine lv_isub hx hb dX11_undo_16 ?_
    refine va_put (D := G) (ci := 8) (v := .int (k_t_acts - 1)) (ty := .int) (C := RX11) (T := TX11) (N := 22) hx hb hts i_X11 tyX11 tyX11_ok nmX11 hown hK hP hD hS 0 rfl rfl 10 (by decide) l_96 (fun _ h9 => h9) rfl (by decide +kernel) rfl rfl (Nat.le_of_ble_eq_true rfl) dX11_undo_17 (fun H locs hP hD hS => ?_)
    have hP : va_P G vwCl [(a_t, .inr (8, [.int k_t_knots, .ref a_t_now, .int k_t_readKnots, .ref a_t_text, .int k_t_length, .ref a_t_covers, .int k_t_reached, .ref a_t_order, .ref a_t_way, .ref a_t_tried, .int (k_t_acts - 1), .int k_t_next, .ref a_t_row, .ref a_t_lids, .ref a_t_shown, .int k_t_seen, .ref a_t_seenKnot, .ref a_t_seenLid, .ref a_t_seenHad, .long k_t_seed, .ref a_t_isKept, .ref a_t_kept])), (a_t_now, .inl (cI, 100, .inl f_t_now)), (a_t_row, .inl (cI, 700, .inl f_t_row))] H := hP
    have hD : va_D A [(a_t, .inr (8, [.int k_t_knots, .ref a_t_now, .int k_t_readKnots, .ref a_t_text, .int k_t_length, .ref a_t_covers, .int k_t_reached, .ref a_t_order, .ref a_t_way, .ref a_t_tried, .int (k_t_acts - 1), .int k_t_next, .ref a_t_row, .ref a_t_lids, .ref a_t_shown, .int k_t_seen, .ref a_t_seenKnot, .ref a_t_seenLid, .ref a_t_seenHad, .long k_t_seed, .ref a_t_isKept, .ref a_t_kept])), (a_t_now, .inl (cI, 100, .inl f_t_now)), (a_t_row, .inl (cI, 700, .inl f_t_row))] := hD
    refine lv_aload_n hx hb dX11_undo_20 rfl (lv_at hl 0 rfl) ?_
    refine lv_aload_n hx hb dX11_undo_21 rfl (lv_at hl 0 rfl) ?_
    refine va_get (D := G) (ci := 8) (v := .int k_t_next) (C := RX11) (T := TX11) (N := 22) hx hb hts i_X11 hown hK hP 0 rfl rfl 11 (by decide) l_142 (fun _ h9 => h9) rfl dX11_undo_22 ?_
    refine lv_bipush (v := 13) hx hb dX11_undo_25 (by decide) ?_
    refine lv_iadd hx hb dX11_undo_27 ?_
    refine lv_bipush (v := 14) hx hb dX11_undo_28 (by decide) ?_
    refine lv_irem hx hb dX11_undo_30 (by decide) ?_
    refine va_put (D := G) (ci := 8) (v := .int ((k_t_next + 13) - (k_t_next + 13) / 14 * 14)) (ty := .int) (C := RX11) (T := TX11) (N := 22) hx hb hts i_X11 tyX11 tyX11_ok nmX11 hown hK hP hD hS 0 rfl rfl 11 (by decide) l_142 (fun _ h9 => h9) rfl (by decide +kernel) rfl rfl (Nat.le_of_ble_eq_true rfl) dX11_undo_31 (fun H locs hP hD hS => ?_)
    have hP : va_P G vwCl [(a_t, .inr (8, [.int k_t_knots, .ref a_t_now, .int k_t_readKnots, .ref a_t_text, .int k_t_length, .ref a_t_covers, .int k_t_reached, .ref a_t_order, .ref a_t_way, .ref a_t_tried, .int (k_t_acts - 1), .int ((k_t_next + 13) - (k_t_next + 13) / 14 * 14), .ref a_t_row, .ref a_t_lids, .ref a_t_shown, .int k_t_seen, .ref a_t_seenKnot, .ref a_t_seenLid, .ref a_t_seenHad, .long k_t_seed, .ref a_t_isKept, .ref a_t_kept])), (a_t_now, .inl (cI, 100, .inl f_t_now)), (a_t_row, .inl (cI, 700, .inl f_t_row))] H := hP
    have hD : va_D A [(a_t, .inr (8, [.int k_t_knots, .ref a_t_now, .int k_t_readKnots, .ref a_t_text, .int k_t_length, .ref a_t_covers, .int k_t_reached, .ref a_t_order, .ref a_t_way, .ref a_t_tried, .int (k_t_acts - 1), .int ((k_t_next + 13) - (k_t_next + 13) / 14 * 14), .ref a_t_row, .ref a_t_lids, .ref a_t_shown, .int k_t_seen, .ref a_t_seenKnot, .ref a_t_seenLid, .ref a_t_seenHad, .long k_t_seed, .ref a_t_isKept, .ref a_t_kept])), (a_t_now, .inl (cI, 100, .inl f_t_now)), (a_t_row, .inl (cI, 700, .inl f_t_row))] := hD
    refine lv_iconst (v := 0) hx hb dX11_undo_34 (by decide) ?_
    refine lv_istore_n (lv' := [(1, .int 0), (0, .ref a_t)]) hx hb dX11_undo_35 rfl hl (by decide) rfl (fun ls hl => ?_)
    have h36 : ∀ (n36 : Nat), ∀ (v36_1 : Int32) (w36_f_t_now : Nat → Int32) (H : Heap) (locs : List Loc) (ls : Array Slot), va_P G vwCl [(a_t, .inr (8, [.int k_t_knots, .ref a_t_now, .int k_t_readKnots, .ref a_t_text, .int k_t_length, .ref a_t_covers, .int k_t_reached, .ref a_t_order, .ref a_t_way, .ref a_t_tried, .int (k_t_acts - 1), .int ((k_t_next + 13) - (k_t_next + 13) / 14 * 14), .ref a_t_row, .ref a_t_lids, .ref a_t_shown, .int k_t_seen, .ref a_t_seenKnot, .ref a_t_seenLid, .ref a_t_seenHad, .long k_t_seed, .ref a_t_isKept, .ref a_t_kept])), (a_t_now, .inl (cI, 100, .inl w36_f_t_now)), (a_t_row, .inl (cI, 700, .inl f_t_row))] H → va_D A [(a_t, .inr (8, [.int k_t_knots, .ref a_t_now, .int k_t_readKnots, .ref a_t_text, .int k_t_length, .ref a_t_covers, .int k_t_reached, .ref a_t_order, .ref a_t_way, .ref a_t_tried, .int (k_t_acts - 1), .int ((k_t_next + 13) - (k_t_next + 13) / 14 * 14), .ref a_t_row, .ref a_t_lids, .ref a_t_shown, .int k_t_seen, .ref a_t_seenKnot, .ref a_t_seenLid, .ref a_t_seenHad, .long k_t_seed, .ref a_t_isKept, .ref a_t_kept])), (a_t_now, .inl (cI, 100, .inl w36_f_t_now)), (a_t_row, .inl (cI, 700, .inl f_t_row))] → va_S A s.heap H locs → lv_has ls 2 [(0, .ref a_t), (1, .int v36_1)] → mX11_undo_L36 k_t_acts k_t_next f_t_row n36 v36_1 w36_f_t_now = some R → W p l e { frames := 0, cells := 0, slots := 0, locals := 0 } s m ([.ref a_t] : List Value).toArray below meth c H locs 0 0 (kQ below G [(a_t, .inr (8, [.int k_t_knots, .ref a_t_now, .int k_t_readKnots, .ref a_t_text, .int k_t_length, .ref a_t_covers, .int k_t_reached, .ref a_t_order, .ref a_t_way, .ref a_t_tried, .int R.2.1, .int R.2.2.1, .ref a_t_row, .ref a_t_lids, .ref a_t_shown, .int k_t_seen, .ref a_t_seenKnot, .ref a_t_seenLid, .ref a_t_seenHad, .long k_t_seed, .ref a_t_isKept, .ref a_t_kept])), (a_t_now, .inl (cI, 100, .inl R.2.2.2)), (a_t_row, .inl (cI, 700, .inl f_t_row))] (some (.int R.1)) A ([.ref a_t] : List Value).toArray s) (F0 m 36 ls []) := by
      intro n36
      induction n36 with
      | zero => intro v36_1 w36_f_t_now H locs ls hP hD hS hl hm; rw [mX11_undo_L36] at hm; cases hm
      | succ n36 ih36 =>
        intro v36_1 w36_f_t_now H locs ls hP hD hS hl hm
        rw [mX11_undo_L36] at hm
        refine lv_iload_n hx hb dX11_undo_36 rfl (lv_at hl 1 rfl) ?_
        refine lv_bipush (v := 50) hx hb dX11_undo_37 (by decide) ?_
        refine lv_icmp_ge (tgt := 68) hx hb dX11_undo_39 (by decide) (fun c39 => ?_) (fun c39 => ?_)
        · rw [if_pos c39] at hm
          refine lv_aload_n hx hb dX11_undo_68 rfl (lv_at hl 0 rfl) ?_
          refine va_get (D := G) (ci := 8) (v := .int (k_t_acts - 1)) (C := RX11) (T := TX11) (N := 22) hx hb hts i_X11 hown hK hP 0 rfl rfl 10 (by decide) l_96 (fun _ h9 => h9) rfl dX11_undo_69 ?_
          have hm := Option.some.inj hm
          subst hm
          exact k_iret (v := k_t_acts - 1) X rfl dX11_undo_72 hP hD hS
        · rw [if_neg c39] at hm
          refine lv_aload_n hx hb dX11_undo_42 rfl (lv_at hl 0 rfl) ?_
          refine va_get (D := G) (ci := 8) (v := .ref a_t_now) (C := RX11) (T := TX11) (N := 22) hx hb hts i_X11 hown hK hP 0 rfl rfl 1 (by decide) l_13 (fun _ h9 => h9) rfl dX11_undo_43 ?_
          refine lv_iload_n hx hb dX11_undo_46 rfl (lv_at hl 1 rfl) ?_
          refine lv_aload_n hx hb dX11_undo_47 rfl (lv_at hl 0 rfl) ?_
          refine va_get (D := G) (ci := 8) (v := .ref a_t_row) (C := RX11) (T := TX11) (N := 22) hx hb hts i_X11 hown hK hP 0 rfl rfl 12 (by decide) l_32 (fun _ h9 => h9) rfl dX11_undo_48 ?_
          refine lv_bipush (v := 50) hx hb dX11_undo_51 (by decide) ?_
          refine lv_aload_n hx hb dX11_undo_53 rfl (lv_at hl 0 rfl) ?_
          refine va_get (D := G) (ci := 8) (v := .int ((k_t_next + 13) - (k_t_next + 13) / 14 * 14)) (C := RX11) (T := TX11) (N := 22) hx hb hts i_X11 hown hK hP 0 rfl rfl 11 (by decide) l_142 (fun _ h9 => h9) rfl dX11_undo_54 ?_
          refine lv_imul hx hb dX11_undo_57 ?_
          refine lv_iload_n hx hb dX11_undo_58 rfl (lv_at hl 1 rfl) ?_
          refine lv_iadd hx hb dX11_undo_59 ?_
          obtain ⟨g60, hm⟩ := gd_some hm
          refine va_iald hx hb hK hP 2 0 rfl rfl (kin_ok g60) dX11_undo_60 ?_
          obtain ⟨g61, hm⟩ := gd_some hm
          refine va_iast hx hb hK hP hD hS 1 0 rfl rfl (kin_ok g61) dX11_undo_61 (fun H locs hP hD hS => ?_)
          have hP : va_P G vwCl [(a_t, .inr (8, [.int k_t_knots, .ref a_t_now, .int k_t_readKnots, .ref a_t_text, .int k_t_length, .ref a_t_covers, .int k_t_reached, .ref a_t_order, .ref a_t_way, .ref a_t_tried, .int (k_t_acts - 1), .int ((k_t_next + 13) - (k_t_next + 13) / 14 * 14), .ref a_t_row, .ref a_t_lids, .ref a_t_shown, .int k_t_seen, .ref a_t_seenKnot, .ref a_t_seenLid, .ref a_t_seenHad, .long k_t_seed, .ref a_t_isKept, .ref a_t_kept])), (a_t_now, .inl (cI, 100, .inl (upd w36_f_t_now (Int32.toNatClampNeg v36_1) (f_t_row (Int32.toNatClampNeg ((50 * ((k_t_next + 13) - (k_t_next + 13) / 14 * 14)) + v36_1)))))), (a_t_row, .inl (cI, 700, .inl f_t_row))] H := hP
          have hD : va_D A [(a_t, .inr (8, [.int k_t_knots, .ref a_t_now, .int k_t_readKnots, .ref a_t_text, .int k_t_length, .ref a_t_covers, .int k_t_reached, .ref a_t_order, .ref a_t_way, .ref a_t_tried, .int (k_t_acts - 1), .int ((k_t_next + 13) - (k_t_next + 13) / 14 * 14), .ref a_t_row, .ref a_t_lids, .ref a_t_shown, .int k_t_seen, .ref a_t_seenKnot, .ref a_t_seenLid, .ref a_t_seenHad, .long k_t_seed, .ref a_t_isKept, .ref a_t_kept])), (a_t_now, .inl (cI, 100, .inl (upd w36_f_t_now (Int32.toNatClampNeg v36_1) (f_t_row (Int32.toNatClampNeg ((50 * ((k_t_next + 13) - (k_t_next + 13) / 14 * 14)) + v36_1)))))), (a_t_row, .inl (cI, 700, .inl f_t_row))] := hD
          refine lv_iinc (v := v36_1 + 1) (lv' := [(1, .int (v36_1 + 1)), (0, .ref a_t)]) hx hb dX11_undo_62 hl (k := 1) rfl rfl (by decide) rfl (fun ls hl => ?_)
          refine lv_goto (tgt := 36) hx hb dX11_undo_65 (by decide) ?_
          exact ih36 (v36_1 + 1) (upd w36_f_t_now (Int32.toNatClampNeg v36_1) (f_t_row (Int32.toNatClampNeg ((50 * ((k_t_next + 13) - (k_t_next + 13) / 14 * 14)) + v36_1)))) _ _ _ hP hD hS (lv_sub hl [1, 0] rfl) hm
    exact h36 kFU 0 f_t_now _ _ _ hP hD hS (lv_sub hl [1, 0] rfl) hm
  · rw [if_pos c4] at hm
    refine lv_bipush (v := (-3)) hx hb dX11_undo_7 (by decide) ?_
    have hm := Option.some.inj hm
    subst hm
    exact k_iret (v := (-3)) X rfl dX11_undo_9 hP hD hS
theorem hd_X11_undo : yX11_undo.cls = RX11 ∧ yX11_undo.cls ≠ "java/lang/invoke/MethodHandle" ∧ yX11_undo.cls ≠ "java/lang/invoke/VarHandle" ∧ (parseMethodDescriptor yX11_undo.desc).map (fun d => d.parameters.length) = some 0 := by decide +kernel
/-! CoverOrderModel stamp -/
set_option maxRecDepth 100000 in
set_option maxHeartbeats 4000000 in
theorem c_X11_stamp (l : Launch) (G : va_G) (cI cZ cE : ClassId) (a_t a_t_now a_t_text a_t_covers a_t_order a_t_way a_t_tried a_t_row a_t_lids a_t_shown a_t_seenKnot a_t_seenLid a_t_seenHad a_t_isKept a_t_kept : Nat) (k_t_knots : Int32) (k_t_readKnots : Int32) (k_t_length : Int32) (k_t_reached : Int32) (k_t_acts : Int32) (k_t_next : Int32) (k_t_seen : Int32) (k_t_seed : Int64) (f_t_now : Nat → Int32) (p1 : Int32) (p2 : Int32) (R : Int32) (hm : mX11_stamp k_t_knots f_t_now p1 p2 = some R) : kM l yX11_stamp wsX11_stamp { frames := 2, cells := 0, slots := 0, locals := 46 } G cI cZ cE [.ref a_t, .int p1, .int p2] [(a_t, .inr (8, [.int k_t_knots, .ref a_t_now, .int k_t_readKnots, .ref a_t_text, .int k_t_length, .ref a_t_covers, .int k_t_reached, .ref a_t_order, .ref a_t_way, .ref a_t_tried, .int k_t_acts, .int k_t_next, .ref a_t_row, .ref a_t_lids, .ref a_t_shown, .int k_t_seen, .ref a_t_seenKnot, .ref a_t_seenLid, .ref a_t_seenHad, .long k_t_seed, .ref a_t_isKept, .ref a_t_kept])), (a_t_now, .inl (cI, 100, .inl f_t_now))] [(a_t, .inr (8, [.int k_t_knots, .ref a_t_now, .int k_t_readKnots, .ref a_t_text, .int k_t_length, .ref a_t_covers, .int k_t_reached, .ref a_t_order, .ref a_t_way, .ref a_t_tried, .int k_t_acts, .int k_t_next, .ref a_t_row, .ref a_t_lids, .ref a_t_shown, .int k_t_seen, .ref a_t_seenKnot, .ref a_t_seenLid, .ref a_t_seenHad, .long k_t_seed, .ref a_t_isKept, .ref a_t_kept])), (a_t_now, .inl (cI, 100, .inl f_t_now))] (some (.int R)) := by
  refine kM_of cX11_stamp 4 (some .int) RX11 (by decide) rfl rfl (Nat.le_of_ble_eq_true rfl) ?_
  intro p e s m below meth c A ls X hA hP hD hS hl
  have hx := X.1.1
  have hb := X.1.2.1
  have hts := X.1.2.2.2.2
  have hown := X.1.2.2.2.1
  have hK := X.2.2.2.1
  have l_13 : (.fieldLink RX11 13 "CoverOrderModel" "now" "[I" : Cond).before _ s = true := hts _ (List.mem_of_getElem? (i := 1) (by decide +kernel))
  have i_X11 : ∀ w ∈ u_ws RX11 TX11 22, w ∈ wsX11_stamp := k_in _ [19, 20, 21, 22, 23, 24, 25, 26, 27, 28, 29, 30, 31, 32, 33, 34, 35, 36, 37, 38, 39, 40] (by decide +kernel)
  have hl : lv_has ls 4 [(0, .ref a_t), (1, .int p1), (2, .int p2)] := hl
  rw [mX11_stamp] at hm
  refine lv_aload_n hx hb dX11_stamp_0 rfl (lv_at hl 0 rfl) ?_
  refine lv_iload_n hx hb dX11_stamp_1 rfl (lv_at hl 1 rfl) ?_
  refine kcV0 (st1 := [.int (bI (mX11_isKnot k_t_knots p1))]) X hA (c_X11_isKnot l G cI cZ cE a_t a_t_now a_t_text a_t_covers a_t_order a_t_way a_t_tried a_t_row a_t_lids a_t_shown a_t_seenKnot a_t_seenLid a_t_seenHad a_t_isKept a_t_kept k_t_knots k_t_readKnots k_t_length k_t_reached k_t_acts k_t_next k_t_seen k_t_seed p1 _ rfl) (cwV 1 hts gX11_stamp_X11_isKnot rfl rfl rfl hd_X11_isKnot ⟨Nat.le_of_ble_eq_true rfl, Nat.le_of_ble_eq_true rfl⟩) 0 8 rfl rfl hl.1 dX11_stamp_2 hP hD hS [0] rfl rfl rfl [] rfl (Nat.le_of_ble_eq_true rfl) rfl ⟨Nat.zero_le _, Nat.zero_le _⟩ (fun H locs hP hD hS => ?_)
  refine lv_if_eq (tgt := 16) hx hb dX11_stamp_5 (by decide) (fun c5 => ?_) (fun c5 => ?_)
  · have c5 := kb0 c5
    rw [if_neg c5] at hm
    refine lv_iconst (v := (-1)) hx hb dX11_stamp_16 (by decide) ?_
    have hm := Option.some.inj hm
    subst hm
    exact k_iret (v := (-1)) X rfl dX11_stamp_17 hP hD hS
  · have c5 := kb1 c5
    rw [if_pos c5] at hm
    refine lv_aload_n hx hb dX11_stamp_8 rfl (lv_at hl 0 rfl) ?_
    refine lv_iload_n hx hb dX11_stamp_9 rfl (lv_at hl 2 rfl) ?_
    refine kcV0 (st1 := [.int (bI (mX11_isKnot k_t_knots p2))]) X hA (c_X11_isKnot l G cI cZ cE a_t a_t_now a_t_text a_t_covers a_t_order a_t_way a_t_tried a_t_row a_t_lids a_t_shown a_t_seenKnot a_t_seenLid a_t_seenHad a_t_isKept a_t_kept k_t_knots k_t_readKnots k_t_length k_t_reached k_t_acts k_t_next k_t_seen k_t_seed p2 _ rfl) (cwV 1 hts gX11_stamp_X11_isKnot rfl rfl rfl hd_X11_isKnot ⟨Nat.le_of_ble_eq_true rfl, Nat.le_of_ble_eq_true rfl⟩) 0 8 rfl rfl hl.1 dX11_stamp_10 hP hD hS [0] rfl rfl rfl [] rfl (Nat.le_of_ble_eq_true rfl) rfl ⟨Nat.zero_le _, Nat.zero_le _⟩ (fun H locs hP hD hS => ?_)
    refine lv_if_ne (tgt := 18) hx hb dX11_stamp_13 (by decide) (fun c13 => ?_) (fun c13 => ?_)
    · have c13 := kb1 c13
      rw [if_pos c13] at hm
      refine lv_aload_n hx hb dX11_stamp_18 rfl (lv_at hl 0 rfl) ?_
      refine lv_iconst (v := 0) hx hb dX11_stamp_19 (by decide) ?_
      refine lv_iload_n hx hb dX11_stamp_20 rfl (lv_at hl 1 rfl) ?_
      refine lv_iload_n hx hb dX11_stamp_21 rfl (lv_at hl 2 rfl) ?_
      obtain ⟨r22, hc22, hm⟩ := kbind hm
      refine kcV0 (st1 := [.int r22]) X hA (c_X11_find l G cI cZ cE a_t a_t_now a_t_text a_t_covers a_t_order a_t_way a_t_tried a_t_row a_t_lids a_t_shown a_t_seenKnot a_t_seenLid a_t_seenHad a_t_isKept a_t_kept k_t_knots k_t_readKnots k_t_length k_t_reached k_t_acts k_t_next k_t_seen k_t_seed f_t_now 0 p1 p2 r22 hc22) (cwV 3 hts gX11_stamp_X11_find rfl rfl rfl hd_X11_find ⟨Nat.le_of_ble_eq_true rfl, Nat.le_of_ble_eq_true rfl⟩) 0 8 rfl rfl hl.1 dX11_stamp_22 hP hD hS [0, 1] rfl rfl rfl [] rfl (Nat.le_of_ble_eq_true rfl) rfl ⟨Nat.zero_le _, Nat.zero_le _⟩ (fun H locs hP hD hS => ?_)
      refine lv_istore_n (lv' := [(3, .int r22), (0, .ref a_t), (1, .int p1), (2, .int p2)]) hx hb dX11_stamp_25 rfl hl (by decide) rfl (fun ls hl => ?_)
      refine lv_iload_n hx hb dX11_stamp_26 rfl (lv_at hl 0 rfl) ?_
      refine lv_bipush (v := (-9)) hx hb dX11_stamp_27 (by decide) ?_
      refine lv_icmp_ne (tgt := 37) hx hb dX11_stamp_29 (by decide) (fun c29 => ?_) (fun c29 => ?_)
      · rw [if_neg c29] at hm
        refine lv_aload_n hx hb dX11_stamp_37 rfl (lv_at hl 1 rfl) ?_
        refine va_get (D := G) (ci := 8) (v := .ref a_t_now) (C := RX11) (T := TX11) (N := 22) hx hb hts i_X11 hown hK hP 0 rfl rfl 1 (by decide) l_13 (fun _ h9 => h9) rfl dX11_stamp_38 ?_
        refine lv_bipush (v := 26) hx hb dX11_stamp_41 (by decide) ?_
        refine lv_iload_n hx hb dX11_stamp_43 rfl (lv_at hl 0 rfl) ?_
        refine lv_iadd hx hb dX11_stamp_44 ?_
        obtain ⟨g45, hm⟩ := gd_some hm
        refine va_iald hx hb hK hP 1 0 rfl rfl (kin_ok g45) dX11_stamp_45 ?_
        have hm := Option.some.inj hm
        subst hm
        exact k_iret (v := f_t_now (Int32.toNatClampNeg (26 + r22))) X rfl dX11_stamp_46 hP hD hS
      · rw [if_pos c29] at hm
        refine lv_bipush (v := (-9)) hx hb dX11_stamp_32 (by decide) ?_
        refine lv_goto (tgt := 46) hx hb dX11_stamp_34 (by decide) ?_
        have hm := Option.some.inj hm
        subst hm
        exact k_iret (v := (-9)) X rfl dX11_stamp_46 hP hD hS
    · have c13 := kb0 c13
      rw [if_neg c13] at hm
      refine lv_iconst (v := (-1)) hx hb dX11_stamp_16 (by decide) ?_
      have hm := Option.some.inj hm
      subst hm
      exact k_iret (v := (-1)) X rfl dX11_stamp_17 hP hD hS
theorem hd_X11_stamp : yX11_stamp.cls = RX11 ∧ yX11_stamp.cls ≠ "java/lang/invoke/MethodHandle" ∧ yX11_stamp.cls ≠ "java/lang/invoke/VarHandle" ∧ (parseMethodDescriptor yX11_stamp.desc).map (fun d => d.parameters.length) = some 2 := by decide +kernel
/-! CoverOrderModel edge -/
set_option maxRecDepth 100000 in
set_option maxHeartbeats 4000000 in
theorem c_X11_edge (l : Launch) (G : va_G) (cI cZ cE : ClassId) (a_t a_t_now a_t_text a_t_covers a_t_order a_t_way a_t_tried a_t_row a_t_lids a_t_shown a_t_seenKnot a_t_seenLid a_t_seenHad a_t_isKept a_t_kept : Nat) (k_t_knots : Int32) (k_t_readKnots : Int32) (k_t_length : Int32) (k_t_reached : Int32) (k_t_acts : Int32) (k_t_next : Int32) (k_t_seen : Int32) (k_t_seed : Int64) (f_t_now : Nat → Int32) (p1 : Int32) (R : Int32) (hm : mX11_edge f_t_now p1 = some R) : kM l yX11_edge wsX11_edge { frames := 1, cells := 0, slots := 0, locals := 25 } G cI cZ cE [.ref a_t, .int p1] [(a_t, .inr (8, [.int k_t_knots, .ref a_t_now, .int k_t_readKnots, .ref a_t_text, .int k_t_length, .ref a_t_covers, .int k_t_reached, .ref a_t_order, .ref a_t_way, .ref a_t_tried, .int k_t_acts, .int k_t_next, .ref a_t_row, .ref a_t_lids, .ref a_t_shown, .int k_t_seen, .ref a_t_seenKnot, .ref a_t_seenLid, .ref a_t_seenHad, .long k_t_seed, .ref a_t_isKept, .ref a_t_kept])), (a_t_now, .inl (cI, 100, .inl f_t_now))] [(a_t, .inr (8, [.int k_t_knots, .ref a_t_now, .int k_t_readKnots, .ref a_t_text, .int k_t_length, .ref a_t_covers, .int k_t_reached, .ref a_t_order, .ref a_t_way, .ref a_t_tried, .int k_t_acts, .int k_t_next, .ref a_t_row, .ref a_t_lids, .ref a_t_shown, .int k_t_seen, .ref a_t_seenKnot, .ref a_t_seenLid, .ref a_t_seenHad, .long k_t_seed, .ref a_t_isKept, .ref a_t_kept])), (a_t_now, .inl (cI, 100, .inl f_t_now))] (some (.int R)) := by
  refine kM_of cX11_edge 2 (some .int) RX11 (by decide) rfl rfl (Nat.le_of_ble_eq_true rfl) ?_
  intro p e s m below meth c A ls X hA hP hD hS hl
  have hx := X.1.1
  have hb := X.1.2.1
  have hts := X.1.2.2.2.2
  have hown := X.1.2.2.2.1
  have hK := X.2.2.2.1
  have l_13 : (.fieldLink RX11 13 "CoverOrderModel" "now" "[I" : Cond).before _ s = true := hts _ (List.mem_of_getElem? (i := 1) (by decide +kernel))
  have i_X11 : ∀ w ∈ u_ws RX11 TX11 22, w ∈ wsX11_edge := k_in _ [10, 11, 12, 13, 14, 15, 16, 17, 18, 19, 20, 21, 22, 23, 24, 25, 26, 27, 28, 29, 30, 31] (by decide +kernel)
  have hl : lv_has ls 2 [(0, .ref a_t), (1, .int p1)] := hl
  rw [mX11_edge] at hm
  refine lv_iload_n hx hb dX11_edge_0 rfl (lv_at hl 1 rfl) ?_
  refine lv_i2l (v := (p1 : Int32).toInt64) hx hb dX11_edge_1 rfl ?_
  refine lv_lconst (v := 0) hx hb dX11_edge_2 (by decide) ?_
  refine lv_aload_n hx hb dX11_edge_3 rfl (lv_at hl 0 rfl) ?_
  refine lv_iconst (v := 0) hx hb dX11_edge_4 (by decide) ?_
  obtain ⟨r5, hc5, hm⟩ := kbind hm
  refine kcV0 (st1 := [.int r5, .long 0, .long ((p1 : Int32).toInt64)]) X hA (c_X11_many l G cI cZ cE a_t a_t_now a_t_text a_t_covers a_t_order a_t_way a_t_tried a_t_row a_t_lids a_t_shown a_t_seenKnot a_t_seenLid a_t_seenHad a_t_isKept a_t_kept k_t_knots k_t_readKnots k_t_length k_t_reached k_t_acts k_t_next k_t_seen k_t_seed f_t_now 0 r5 hc5) (cwV 1 hts gX11_edge_X11_many rfl rfl rfl hd_X11_many ⟨Nat.le_of_ble_eq_true rfl, Nat.le_of_ble_eq_true rfl⟩) 0 8 rfl rfl hl.1 dX11_edge_5 hP hD hS [0, 1] rfl rfl rfl [.long 0, .long ((p1 : Int32).toInt64)] rfl (Nat.le_of_ble_eq_true rfl) rfl ⟨Nat.zero_le _, Nat.zero_le _⟩ (fun H locs hP hD hS => ?_)
  refine lv_iconst (v := 1) hx hb dX11_edge_8 (by decide) ?_
  refine lv_isub hx hb dX11_edge_9 ?_
  refine lv_i2l (v := (r5 - 1 : Int32).toInt64) hx hb dX11_edge_10 rfl ?_
  refine kcS0 (st1 := [.int (bI (mX11_in ((p1 : Int32).toInt64) 0 ((r5 - 1 : Int32).toInt64)))]) X hA (c_X11_in l G cI cZ cE ((p1 : Int32).toInt64) 0 ((r5 - 1 : Int32).toInt64) _ rfl) (va_cwS 3 hts gX11_edge_X11_in rfl rfl rfl hd_X11_in ⟨Nat.le_of_ble_eq_true rfl, Nat.le_of_ble_eq_true rfl⟩) hl.1 dX11_edge_11 hP hD hS [] rfl rfl rfl [] rfl (Nat.le_of_ble_eq_true rfl) rfl ⟨Nat.zero_le _, Nat.zero_le _⟩ (fun H locs hP hD hS => ?_)
  refine lv_if_eq (tgt := 28) hx hb dX11_edge_14 (by decide) (fun c14 => ?_) (fun c14 => ?_)
  · have c14 := kb0 c14
    rw [if_neg c14] at hm
    refine lv_bipush (v := (-9)) hx hb dX11_edge_28 (by decide) ?_
    have hm := Option.some.inj hm
    subst hm
    exact k_iret (v := (-9)) X rfl dX11_edge_30 hP hD hS
  · have c14 := kb1 c14
    rw [if_pos c14] at hm
    refine lv_aload_n hx hb dX11_edge_17 rfl (lv_at hl 0 rfl) ?_
    refine va_get (D := G) (ci := 8) (v := .ref a_t_now) (C := RX11) (T := TX11) (N := 22) hx hb hts i_X11 hown hK hP 0 rfl rfl 1 (by decide) l_13 (fun _ h9 => h9) rfl dX11_edge_18 ?_
    refine lv_iconst (v := 2) hx hb dX11_edge_21 (by decide) ?_
    refine lv_iload_n hx hb dX11_edge_22 rfl (lv_at hl 1 rfl) ?_
    refine lv_iadd hx hb dX11_edge_23 ?_
    obtain ⟨g24, hm⟩ := gd_some hm
    refine va_iald hx hb hK hP 1 0 rfl rfl (kin_ok g24) dX11_edge_24 ?_
    refine lv_goto (tgt := 30) hx hb dX11_edge_25 (by decide) ?_
    have hm := Option.some.inj hm
    subst hm
    exact k_iret (v := f_t_now (Int32.toNatClampNeg (2 + p1))) X rfl dX11_edge_30 hP hD hS
theorem hd_X11_edge : yX11_edge.cls = RX11 ∧ yX11_edge.cls ≠ "java/lang/invoke/MethodHandle" ∧ yX11_edge.cls ≠ "java/lang/invoke/VarHandle" ∧ (parseMethodDescriptor yX11_edge.desc).map (fun d => d.parameters.length) = some 1 := by decide +kernel
/-! CoverOrderModel layTrial -/
set_option maxRecDepth 100000 in
set_option maxHeartbeats 4000000 in
theorem c_X11_layTrial (l : Launch) (G : va_G) (cI cZ cE : ClassId) (a_t a_t_now a_t_text a_t_covers a_t_order a_t_way a_t_tried a_t_row a_t_lids a_t_shown a_t_seenKnot a_t_seenLid a_t_seenHad a_t_isKept a_t_kept : Nat) (k_t_knots : Int32) (k_t_readKnots : Int32) (k_t_length : Int32) (k_t_reached : Int32) (k_t_acts : Int32) (k_t_next : Int32) (k_t_seen : Int32) (k_t_seed : Int64) (f_t_now : Nat → Int32) (R : (Nat → Int32)) (hm : mX11_layTrial f_t_now = some R) : kM l yX11_layTrial wsX11_layTrial { frames := 0, cells := 0, slots := 0, locals := 0 } G cI cZ cE [.ref a_t] [(a_t, .inr (8, [.int k_t_knots, .ref a_t_now, .int k_t_readKnots, .ref a_t_text, .int k_t_length, .ref a_t_covers, .int k_t_reached, .ref a_t_order, .ref a_t_way, .ref a_t_tried, .int k_t_acts, .int k_t_next, .ref a_t_row, .ref a_t_lids, .ref a_t_shown, .int k_t_seen, .ref a_t_seenKnot, .ref a_t_seenLid, .ref a_t_seenHad, .long k_t_seed, .ref a_t_isKept, .ref a_t_kept])), (a_t_now, .inl (cI, 100, .inl f_t_now))] [(a_t, .inr (8, [.int k_t_knots, .ref a_t_now, .int k_t_readKnots, .ref a_t_text, .int k_t_length, .ref a_t_covers, .int k_t_reached, .ref a_t_order, .ref a_t_way, .ref a_t_tried, .int k_t_acts, .int k_t_next, .ref a_t_row, .ref a_t_lids, .ref a_t_shown, .int k_t_seen, .ref a_t_seenKnot, .ref a_t_seenLid, .ref a_t_seenHad, .long k_t_seed, .ref a_t_isKept, .ref a_t_kept])), (a_t_now, .inl (cI, 100, .inl R))] none := by
  refine kM_of cX11_layTrial 2 none RX11 (by decide) rfl rfl (Nat.le_of_ble_eq_true rfl) ?_
  intro p e s m below meth c A ls X hA hP hD hS hl
  have hx := X.1.1
  have hb := X.1.2.1
  have hts := X.1.2.2.2.2
  have hown := X.1.2.2.2.1
  have hK := X.2.2.2.1
  have l_13 : (.fieldLink RX11 13 "CoverOrderModel" "now" "[I" : Cond).before _ s = true := hts _ (List.mem_of_getElem? (i := 1) (by decide +kernel))
  have i_X11 : ∀ w ∈ u_ws RX11 TX11 22, w ∈ wsX11_layTrial := k_in _ [2, 3, 4, 5, 6, 7, 8, 9, 10, 11, 12, 13, 14, 15, 16, 17, 18, 19, 20, 21, 22, 23] (by decide +kernel)
  have hl : lv_has ls 2 [(0, .ref a_t)] := hl
  rw [mX11_layTrial] at hm
  refine lv_iconst (v := 0) hx hb dX11_layTrial_0 (by decide) ?_
  refine lv_istore_n (lv' := [(1, .int 0), (0, .ref a_t)]) hx hb dX11_layTrial_1 rfl hl (by decide) rfl (fun ls hl => ?_)
  have h2 : ∀ (n2 : Nat), ∀ (v2_1 : Int32) (w2_f_t_now : Nat → Int32) (H : Heap) (locs : List Loc) (ls : Array Slot), va_P G vwCl [(a_t, .inr (8, [.int k_t_knots, .ref a_t_now, .int k_t_readKnots, .ref a_t_text, .int k_t_length, .ref a_t_covers, .int k_t_reached, .ref a_t_order, .ref a_t_way, .ref a_t_tried, .int k_t_acts, .int k_t_next, .ref a_t_row, .ref a_t_lids, .ref a_t_shown, .int k_t_seen, .ref a_t_seenKnot, .ref a_t_seenLid, .ref a_t_seenHad, .long k_t_seed, .ref a_t_isKept, .ref a_t_kept])), (a_t_now, .inl (cI, 100, .inl w2_f_t_now))] H → va_D A [(a_t, .inr (8, [.int k_t_knots, .ref a_t_now, .int k_t_readKnots, .ref a_t_text, .int k_t_length, .ref a_t_covers, .int k_t_reached, .ref a_t_order, .ref a_t_way, .ref a_t_tried, .int k_t_acts, .int k_t_next, .ref a_t_row, .ref a_t_lids, .ref a_t_shown, .int k_t_seen, .ref a_t_seenKnot, .ref a_t_seenLid, .ref a_t_seenHad, .long k_t_seed, .ref a_t_isKept, .ref a_t_kept])), (a_t_now, .inl (cI, 100, .inl w2_f_t_now))] → va_S A s.heap H locs → lv_has ls 2 [(0, .ref a_t), (1, .int v2_1)] → mX11_layTrial_L2 n2 v2_1 w2_f_t_now = some R → W p l e { frames := 0, cells := 0, slots := 0, locals := 0 } s m ([.ref a_t] : List Value).toArray below meth c H locs 0 0 (kQ below G [(a_t, .inr (8, [.int k_t_knots, .ref a_t_now, .int k_t_readKnots, .ref a_t_text, .int k_t_length, .ref a_t_covers, .int k_t_reached, .ref a_t_order, .ref a_t_way, .ref a_t_tried, .int k_t_acts, .int k_t_next, .ref a_t_row, .ref a_t_lids, .ref a_t_shown, .int k_t_seen, .ref a_t_seenKnot, .ref a_t_seenLid, .ref a_t_seenHad, .long k_t_seed, .ref a_t_isKept, .ref a_t_kept])), (a_t_now, .inl (cI, 100, .inl R))] none A ([.ref a_t] : List Value).toArray s) (F0 m 2 ls []) := by
    intro n2
    induction n2 with
    | zero => intro v2_1 w2_f_t_now H locs ls hP hD hS hl hm; rw [mX11_layTrial_L2] at hm; cases hm
    | succ n2 ih2 =>
      intro v2_1 w2_f_t_now H locs ls hP hD hS hl hm
      rw [mX11_layTrial_L2] at hm
      refine lv_iload_n hx hb dX11_layTrial_2 rfl (lv_at hl 1 rfl) ?_
      refine lv_bipush (v := 50) hx hb dX11_layTrial_3 (by decide) ?_
      refine lv_icmp_ge (tgt := 29) hx hb dX11_layTrial_5 (by decide) (fun c5 => ?_) (fun c5 => ?_)
      · rw [if_pos c5] at hm
        have hm := Option.some.inj hm
        subst hm
        exact k_vret X rfl dX11_layTrial_29 hP hD hS
      · rw [if_neg c5] at hm
        refine lv_aload_n hx hb dX11_layTrial_8 rfl (lv_at hl 0 rfl) ?_
        refine va_get (D := G) (ci := 8) (v := .ref a_t_now) (C := RX11) (T := TX11) (N := 22) hx hb hts i_X11 hown hK hP 0 rfl rfl 1 (by decide) l_13 (fun _ h9 => h9) rfl dX11_layTrial_9 ?_
        refine lv_bipush (v := 50) hx hb dX11_layTrial_12 (by decide) ?_
        refine lv_iload_n hx hb dX11_layTrial_14 rfl (lv_at hl 1 rfl) ?_
        refine lv_iadd hx hb dX11_layTrial_15 ?_
        refine lv_aload_n hx hb dX11_layTrial_16 rfl (lv_at hl 0 rfl) ?_
        refine va_get (D := G) (ci := 8) (v := .ref a_t_now) (C := RX11) (T := TX11) (N := 22) hx hb hts i_X11 hown hK hP 0 rfl rfl 1 (by decide) l_13 (fun _ h9 => h9) rfl dX11_layTrial_17 ?_
        refine lv_iload_n hx hb dX11_layTrial_20 rfl (lv_at hl 1 rfl) ?_
        obtain ⟨g21, hm⟩ := gd_some hm
        refine va_iald hx hb hK hP 1 0 rfl rfl (kin_ok g21) dX11_layTrial_21 ?_
        obtain ⟨g22, hm⟩ := gd_some hm
        refine va_iast hx hb hK hP hD hS 1 0 rfl rfl (kin_ok g22) dX11_layTrial_22 (fun H locs hP hD hS => ?_)
        have hP : va_P G vwCl [(a_t, .inr (8, [.int k_t_knots, .ref a_t_now, .int k_t_readKnots, .ref a_t_text, .int k_t_length, .ref a_t_covers, .int k_t_reached, .ref a_t_order, .ref a_t_way, .ref a_t_tried, .int k_t_acts, .int k_t_next, .ref a_t_row, .ref a_t_lids, .ref a_t_shown, .int k_t_seen, .ref a_t_seenKnot, .ref a_t_seenLid, .ref a_t_seenHad, .long k_t_seed, .ref a_t_isKept, .ref a_t_kept])), (a_t_now, .inl (cI, 100, .inl (upd w2_f_t_now (Int32.toNatClampNeg (50 + v2_1)) (w2_f_t_now (Int32.toNatClampNeg v2_1)))))] H := hP
        have hD : va_D A [(a_t, .inr (8, [.int k_t_knots, .ref a_t_now, .int k_t_readKnots, .ref a_t_text, .int k_t_length, .ref a_t_covers, .int k_t_reached, .ref a_t_order, .ref a_t_way, .ref a_t_tried, .int k_t_acts, .int k_t_next, .ref a_t_row, .ref a_t_lids, .ref a_t_shown, .int k_t_seen, .ref a_t_seenKnot, .ref a_t_seenLid, .ref a_t_seenHad, .long k_t_seed, .ref a_t_isKept, .ref a_t_kept])), (a_t_now, .inl (cI, 100, .inl (upd w2_f_t_now (Int32.toNatClampNeg (50 + v2_1)) (w2_f_t_now (Int32.toNatClampNeg v2_1)))))] := hD
        refine lv_iinc (v := v2_1 + 1) (lv' := [(1, .int (v2_1 + 1)), (0, .ref a_t)]) hx hb dX11_layTrial_23 hl (k := 1) rfl rfl (by decide) rfl (fun ls hl => ?_)
        refine lv_goto (tgt := 2) hx hb dX11_layTrial_26 (by decide) ?_
        exact ih2 (v2_1 + 1) (upd w2_f_t_now (Int32.toNatClampNeg (50 + v2_1)) (w2_f_t_now (Int32.toNatClampNeg v2_1))) _ _ _ hP hD hS (lv_sub hl [1, 0] rfl) hm
  exact h2 kFU 0 f_t_now _ _ _ hP hD hS (lv_sub hl [1, 0] rfl) hm
theorem hd_X11_layTrial : yX11_layTrial.cls = RX11 ∧ yX11_layTrial.cls ≠ "java/lang/invoke/MethodHandle" ∧ yX11_layTrial.cls ≠ "java/lang/invoke/VarHandle" ∧ (parseMethodDescriptor yX11_layTrial.desc).map (fun d => d.parameters.length) = some 0 := by decide +kernel
/-! CoverOrderModel nearest -/
set_option maxRecDepth 100000 in
set_option maxHeartbeats 4000000 in
theorem c_X11_nearest (l : Launch) (G : va_G) (cI cZ cE : ClassId) (a_t a_t_now a_t_text a_t_covers a_t_order a_t_way a_t_tried a_t_row a_t_lids a_t_shown a_t_seenKnot a_t_seenLid a_t_seenHad a_t_isKept a_t_kept : Nat) (k_t_knots : Int32) (k_t_readKnots : Int32) (k_t_length : Int32) (k_t_reached : Int32) (k_t_acts : Int32) (k_t_next : Int32) (k_t_seen : Int32) (k_t_seed : Int64) (f_t_now : Nat → Int32) (f_t_covers : Nat → Int32) (p1 : Int32) (p2 : Int32) (R : Int32 × Int32 × (Nat → Int32)) (hm : mX11_nearest k_t_knots k_t_reached f_t_now f_t_covers p1 p2 = some R) : kM l yX11_nearest wsX11_nearest { frames := 3, cells := 0, slots := 0, locals := 77 } G cI cZ cE [.ref a_t, .int p1, .int p2] [(a_t, .inr (8, [.int k_t_knots, .ref a_t_now, .int k_t_readKnots, .ref a_t_text, .int k_t_length, .ref a_t_covers, .int k_t_reached, .ref a_t_order, .ref a_t_way, .ref a_t_tried, .int k_t_acts, .int k_t_next, .ref a_t_row, .ref a_t_lids, .ref a_t_shown, .int k_t_seen, .ref a_t_seenKnot, .ref a_t_seenLid, .ref a_t_seenHad, .long k_t_seed, .ref a_t_isKept, .ref a_t_kept])), (a_t_now, .inl (cI, 100, .inl f_t_now)), (a_t_covers, .inl (cI, 8, .inl f_t_covers))] [(a_t, .inr (8, [.int k_t_knots, .ref a_t_now, .int k_t_readKnots, .ref a_t_text, .int k_t_length, .ref a_t_covers, .int R.2.1, .ref a_t_order, .ref a_t_way, .ref a_t_tried, .int k_t_acts, .int k_t_next, .ref a_t_row, .ref a_t_lids, .ref a_t_shown, .int k_t_seen, .ref a_t_seenKnot, .ref a_t_seenLid, .ref a_t_seenHad, .long k_t_seed, .ref a_t_isKept, .ref a_t_kept])), (a_t_now, .inl (cI, 100, .inl f_t_now)), (a_t_covers, .inl (cI, 8, .inl R.2.2))] (some (.int R.1)) := by
  refine kM_of cX11_nearest 5 (some .int) RX11 (by decide) rfl rfl (Nat.le_of_ble_eq_true rfl) ?_
  intro p e s m below meth c A ls X hA hP hD hS hl
  have hx := X.1.1
  have hb := X.1.2.1
  have hts := X.1.2.2.2.2
  have hown := X.1.2.2.2.1
  have hK := X.2.2.2.1
  have l_110 : (.fieldLink RX11 110 "CoverOrderModel" "reached" "I" : Cond).before _ s = true := hts _ (List.mem_of_getElem? (i := 1) (by decide +kernel))
  have i_X11 : ∀ w ∈ u_ws RX11 TX11 22, w ∈ wsX11_nearest := k_in _ [43, 44, 45, 46, 47, 48, 49, 50, 51, 52, 53, 54, 55, 56, 57, 58, 59, 60, 61, 62, 63, 64] (by decide +kernel)
  have l_20 : (.fieldLink RX11 20 "CoverOrderModel" "covers" "[I" : Cond).before _ s = true := hts _ (List.mem_of_getElem? (i := 2) (by decide +kernel))
  have hl : lv_has ls 5 [(0, .ref a_t), (1, .int p1), (2, .int p2)] := hl
  rw [mX11_nearest] at hm
  refine lv_aload_n hx hb dX11_nearest_0 rfl (lv_at hl 0 rfl) ?_
  refine lv_iload_n hx hb dX11_nearest_1 rfl (lv_at hl 1 rfl) ?_
  refine kcV0 (st1 := [.int (bI (mX11_isKnot k_t_knots p1))]) X hA (c_X11_isKnot l G cI cZ cE a_t a_t_now a_t_text a_t_covers a_t_order a_t_way a_t_tried a_t_row a_t_lids a_t_shown a_t_seenKnot a_t_seenLid a_t_seenHad a_t_isKept a_t_kept k_t_knots k_t_readKnots k_t_length k_t_reached k_t_acts k_t_next k_t_seen k_t_seed p1 _ rfl) (cwV 1 hts gX11_nearest_X11_isKnot rfl rfl rfl hd_X11_isKnot ⟨Nat.le_of_ble_eq_true rfl, Nat.le_of_ble_eq_true rfl⟩) 0 8 rfl rfl hl.1 dX11_nearest_2 hP hD hS [0] rfl rfl rfl [] rfl (Nat.le_of_ble_eq_true rfl) rfl ⟨Nat.zero_le _, Nat.zero_le _⟩ (fun H locs hP hD hS => ?_)
  refine lv_if_eq (tgt := 16) hx hb dX11_nearest_5 (by decide) (fun c5 => ?_) (fun c5 => ?_)
  · have c5 := kb0 c5
    rw [if_neg c5] at hm
    refine lv_iconst (v := (-1)) hx hb dX11_nearest_16 (by decide) ?_
    have hm := Option.some.inj hm
    subst hm
    exact k_iret (v := (-1)) X rfl dX11_nearest_17 hP hD hS
  · have c5 := kb1 c5
    rw [if_pos c5] at hm
    refine lv_aload_n hx hb dX11_nearest_8 rfl (lv_at hl 0 rfl) ?_
    refine lv_iload_n hx hb dX11_nearest_9 rfl (lv_at hl 2 rfl) ?_
    refine kcV0 (st1 := [.int (bI (mX11_isKnot k_t_knots p2))]) X hA (c_X11_isKnot l G cI cZ cE a_t a_t_now a_t_text a_t_covers a_t_order a_t_way a_t_tried a_t_row a_t_lids a_t_shown a_t_seenKnot a_t_seenLid a_t_seenHad a_t_isKept a_t_kept k_t_knots k_t_readKnots k_t_length k_t_reached k_t_acts k_t_next k_t_seen k_t_seed p2 _ rfl) (cwV 1 hts gX11_nearest_X11_isKnot rfl rfl rfl hd_X11_isKnot ⟨Nat.le_of_ble_eq_true rfl, Nat.le_of_ble_eq_true rfl⟩) 0 8 rfl rfl hl.1 dX11_nearest_10 hP hD hS [0] rfl rfl rfl [] rfl (Nat.le_of_ble_eq_true rfl) rfl ⟨Nat.zero_le _, Nat.zero_le _⟩ (fun H locs hP hD hS => ?_)
    refine lv_if_ne (tgt := 18) hx hb dX11_nearest_13 (by decide) (fun c13 => ?_) (fun c13 => ?_)
    · have c13 := kb1 c13
      rw [if_pos c13] at hm
      refine lv_aload_n hx hb dX11_nearest_18 rfl (lv_at hl 0 rfl) ?_
      refine lv_iconst (v := 0) hx hb dX11_nearest_19 (by decide) ?_
      obtain ⟨r20, hc20, hm⟩ := kbind hm
      refine kcV (ws1 := [(a_t, .inr (8, [.int k_t_knots, .ref a_t_now, .int k_t_readKnots, .ref a_t_text, .int k_t_length, .ref a_t_covers, .int r20.1, .ref a_t_order, .ref a_t_way, .ref a_t_tried, .int k_t_acts, .int k_t_next, .ref a_t_row, .ref a_t_lids, .ref a_t_shown, .int k_t_seen, .ref a_t_seenKnot, .ref a_t_seenLid, .ref a_t_seenHad, .long k_t_seed, .ref a_t_isKept, .ref a_t_kept])), (a_t_now, .inl (cI, 100, .inl f_t_now)), (a_t_covers, .inl (cI, 8, .inl r20.2))]) (st1 := []) X hA (c_X11_findCovers l G cI cZ cE a_t a_t_now a_t_text a_t_covers a_t_order a_t_way a_t_tried a_t_row a_t_lids a_t_shown a_t_seenKnot a_t_seenLid a_t_seenHad a_t_isKept a_t_kept k_t_knots k_t_readKnots k_t_length k_t_reached k_t_acts k_t_next k_t_seen k_t_seed f_t_now f_t_covers 0 r20 hc20) (cwV 1 hts gX11_nearest_X11_findCovers rfl rfl rfl hd_X11_findCovers ⟨Nat.le_of_ble_eq_true rfl, Nat.le_of_ble_eq_true rfl⟩) 0 8 rfl rfl hl.1 dX11_nearest_20 hP hD hS [0, 1, 2] rfl rfl rfl rfl rfl [] rfl (Nat.le_of_ble_eq_true rfl) rfl ⟨Nat.zero_le _, Nat.zero_le _⟩ (fun H locs hP hD hS => ?_)
      refine lv_aload_n hx hb dX11_nearest_23 rfl (lv_at hl 0 rfl) ?_
      refine va_get (D := G) (ci := 8) (v := .int r20.1) (C := RX11) (T := TX11) (N := 22) hx hb hts i_X11 hown hK hP 0 rfl rfl 6 (by decide) l_110 (fun _ h9 => h9) rfl dX11_nearest_24 ?_
      refine lv_iload_n hx hb dX11_nearest_27 rfl (lv_at hl 1 rfl) ?_
      refine kcS0 (st1 := [.int (bI (mX11_has r20.1 p1))]) X hA (c_X11_has l G cI cZ cE r20.1 p1 _ rfl) (va_cwS 2 hts gX11_nearest_X11_has rfl rfl rfl hd_X11_has ⟨Nat.le_of_ble_eq_true rfl, Nat.le_of_ble_eq_true rfl⟩) hl.1 dX11_nearest_28 hP hD hS [] rfl rfl rfl [] rfl (Nat.le_of_ble_eq_true rfl) rfl ⟨Nat.zero_le _, Nat.zero_le _⟩ (fun H locs hP hD hS => ?_)
      refine lv_if_eq (tgt := 45) hx hb dX11_nearest_31 (by decide) (fun c31 => ?_) (fun c31 => ?_)
      · have c31 := kb0 c31
        rw [if_neg c31] at hm
        refine lv_bipush (v := (-3)) hx hb dX11_nearest_45 (by decide) ?_
        have hm := Option.some.inj hm
        subst hm
        exact k_iret (v := (-3)) X rfl dX11_nearest_47 hP hD hS
      · have c31 := kb1 c31
        rw [if_pos c31] at hm
        refine lv_aload_n hx hb dX11_nearest_34 rfl (lv_at hl 0 rfl) ?_
        refine va_get (D := G) (ci := 8) (v := .int r20.1) (C := RX11) (T := TX11) (N := 22) hx hb hts i_X11 hown hK hP 0 rfl rfl 6 (by decide) l_110 (fun _ h9 => h9) rfl dX11_nearest_35 ?_
        refine lv_iload_n hx hb dX11_nearest_38 rfl (lv_at hl 2 rfl) ?_
        refine kcS0 (st1 := [.int (bI (mX11_has r20.1 p2))]) X hA (c_X11_has l G cI cZ cE r20.1 p2 _ rfl) (va_cwS 2 hts gX11_nearest_X11_has rfl rfl rfl hd_X11_has ⟨Nat.le_of_ble_eq_true rfl, Nat.le_of_ble_eq_true rfl⟩) hl.1 dX11_nearest_39 hP hD hS [] rfl rfl rfl [] rfl (Nat.le_of_ble_eq_true rfl) rfl ⟨Nat.zero_le _, Nat.zero_le _⟩ (fun H locs hP hD hS => ?_)
        refine lv_if_ne (tgt := 48) hx hb dX11_nearest_42 (by decide) (fun c42 => ?_) (fun c42 => ?_)
        · have c42 := kb1 c42
          rw [if_pos c42] at hm
          refine lv_iconst (v := 0) hx hb dX11_nearest_48 (by decide) ?_
          refine lv_istore_n (lv' := [(3, .int 0), (0, .ref a_t), (1, .int p1), (2, .int p2)]) hx hb dX11_nearest_49 rfl hl (by decide) rfl (fun ls hl => ?_)
          refine lv_iconst (v := 0) hx hb dX11_nearest_50 (by decide) ?_
          refine lv_istore (lv' := [(4, .int 0), (3, .int 0), (0, .ref a_t), (1, .int p1), (2, .int p2)]) hx hb dX11_nearest_51 hl (by decide) rfl (fun ls hl => ?_)
          have h53 : ∀ (n53 : Nat), ∀ (v53_3 : Int32) (v53_4 : Int32) (H : Heap) (locs : List Loc) (ls : Array Slot), va_P G vwCl [(a_t, .inr (8, [.int k_t_knots, .ref a_t_now, .int k_t_readKnots, .ref a_t_text, .int k_t_length, .ref a_t_covers, .int r20.1, .ref a_t_order, .ref a_t_way, .ref a_t_tried, .int k_t_acts, .int k_t_next, .ref a_t_row, .ref a_t_lids, .ref a_t_shown, .int k_t_seen, .ref a_t_seenKnot, .ref a_t_seenLid, .ref a_t_seenHad, .long k_t_seed, .ref a_t_isKept, .ref a_t_kept])), (a_t_now, .inl (cI, 100, .inl f_t_now)), (a_t_covers, .inl (cI, 8, .inl r20.2))] H → va_D A [(a_t, .inr (8, [.int k_t_knots, .ref a_t_now, .int k_t_readKnots, .ref a_t_text, .int k_t_length, .ref a_t_covers, .int r20.1, .ref a_t_order, .ref a_t_way, .ref a_t_tried, .int k_t_acts, .int k_t_next, .ref a_t_row, .ref a_t_lids, .ref a_t_shown, .int k_t_seen, .ref a_t_seenKnot, .ref a_t_seenLid, .ref a_t_seenHad, .long k_t_seed, .ref a_t_isKept, .ref a_t_kept])), (a_t_now, .inl (cI, 100, .inl f_t_now)), (a_t_covers, .inl (cI, 8, .inl r20.2))] → va_S A s.heap H locs → lv_has ls 5 [(0, .ref a_t), (1, .int p1), (2, .int p2), (3, .int v53_3), (4, .int v53_4)] → mX11_nearest_L53 p1 p2 r20 n53 v53_3 v53_4 = some R → W p l e { frames := 3, cells := 0, slots := 0, locals := 77 } s m ([.ref a_t, .int p1, .int p2] : List Value).toArray below meth c H locs 0 0 (kQ below G [(a_t, .inr (8, [.int k_t_knots, .ref a_t_now, .int k_t_readKnots, .ref a_t_text, .int k_t_length, .ref a_t_covers, .int R.2.1, .ref a_t_order, .ref a_t_way, .ref a_t_tried, .int k_t_acts, .int k_t_next, .ref a_t_row, .ref a_t_lids, .ref a_t_shown, .int k_t_seen, .ref a_t_seenKnot, .ref a_t_seenLid, .ref a_t_seenHad, .long k_t_seed, .ref a_t_isKept, .ref a_t_kept])), (a_t_now, .inl (cI, 100, .inl f_t_now)), (a_t_covers, .inl (cI, 8, .inl R.2.2))] (some (.int R.1)) A ([.ref a_t, .int p1, .int p2] : List Value).toArray s) (F0 m 53 ls []) := by
            intro n53
            induction n53 with
            | zero => intro v53_3 v53_4 H locs ls hP hD hS hl hm; rw [mX11_nearest_L53] at hm; cases hm
            | succ n53 ih53 =>
              intro v53_3 v53_4 H locs ls hP hD hS hl hm
              rw [mX11_nearest_L53] at hm
              refine lv_iload hx hb dX11_nearest_53 (lv_at hl 4 rfl) ?_
              refine lv_bipush (v := 8) hx hb dX11_nearest_55 (by decide) ?_
              refine lv_icmp_ge (tgt := 108) hx hb dX11_nearest_57 (by decide) (fun c57 => ?_) (fun c57 => ?_)
              · rw [if_pos c57] at hm
                refine lv_iload_n hx hb dX11_nearest_108 rfl (lv_at hl 3 rfl) ?_
                have hm := Option.some.inj hm
                subst hm
                exact k_iret (v := v53_3) X rfl dX11_nearest_109 hP hD hS
              · rw [if_neg c57] at hm
                refine lv_aload_n hx hb dX11_nearest_60 rfl (lv_at hl 0 rfl) ?_
                refine va_get (D := G) (ci := 8) (v := .ref a_t_covers) (C := RX11) (T := TX11) (N := 22) hx hb hts i_X11 hown hK hP 0 rfl rfl 5 (by decide) l_20 (fun _ h9 => h9) rfl dX11_nearest_61 ?_
                refine lv_iload_n hx hb dX11_nearest_64 rfl (lv_at hl 1 rfl) ?_
                obtain ⟨g65, hm⟩ := gd_some hm
                refine va_iald hx hb hK hP 2 0 rfl rfl (kin_ok g65) dX11_nearest_65 ?_
                refine lv_aload_n hx hb dX11_nearest_66 rfl (lv_at hl 0 rfl) ?_
                refine va_get (D := G) (ci := 8) (v := .ref a_t_covers) (C := RX11) (T := TX11) (N := 22) hx hb hts i_X11 hown hK hP 0 rfl rfl 5 (by decide) l_20 (fun _ h9 => h9) rfl dX11_nearest_67 ?_
                refine lv_iload_n hx hb dX11_nearest_70 rfl (lv_at hl 2 rfl) ?_
                obtain ⟨g71, hm⟩ := gd_some hm
                refine va_iald hx hb hK hP 2 0 rfl rfl (kin_ok g71) dX11_nearest_71 ?_
                refine lv_iand hx hb dX11_nearest_72 ?_
                refine lv_iload hx hb dX11_nearest_73 (lv_at hl 4 rfl) ?_
                refine kcS0 (st1 := [.int (bI (mX11_has ((r20.2 (Int32.toNatClampNeg p1)) &&& (r20.2 (Int32.toNatClampNeg p2))) v53_4))]) X hA (c_X11_has l G cI cZ cE ((r20.2 (Int32.toNatClampNeg p1)) &&& (r20.2 (Int32.toNatClampNeg p2))) v53_4 _ rfl) (va_cwS 2 hts gX11_nearest_X11_has rfl rfl rfl hd_X11_has ⟨Nat.le_of_ble_eq_true rfl, Nat.le_of_ble_eq_true rfl⟩) hl.1 dX11_nearest_75 hP hD hS [] rfl rfl rfl [] rfl (Nat.le_of_ble_eq_true rfl) rfl ⟨Nat.zero_le _, Nat.zero_le _⟩ (fun H locs hP hD hS => ?_)
                refine lv_if_eq (tgt := 100) hx hb dX11_nearest_78 (by decide) (fun c78 => ?_) (fun c78 => ?_)
                · have c78 := kb0 c78
                  rw [if_neg c78] at hm
                  refine lv_iload_n hx hb dX11_nearest_100 rfl (lv_at hl 3 rfl) ?_
                  refine lv_istore_n (lv' := [(3, .int v53_3), (0, .ref a_t), (1, .int p1), (2, .int p2), (4, .int v53_4)]) hx hb dX11_nearest_101 rfl hl (by decide) rfl (fun ls hl => ?_)
                  refine lv_iinc (v := v53_4 + 1) (lv' := [(4, .int (v53_4 + 1)), (3, .int v53_3), (0, .ref a_t), (1, .int p1), (2, .int p2)]) hx hb dX11_nearest_102 hl (k := 4) rfl rfl (by decide) rfl (fun ls hl => ?_)
                  refine lv_goto (tgt := 53) hx hb dX11_nearest_105 (by decide) ?_
                  exact ih53 v53_3 (v53_4 + 1) _ _ _ hP hD hS (lv_sub hl [2, 3, 4, 1, 0] rfl) hm
                · have c78 := kb1 c78
                  rw [if_pos c78] at hm
                  refine lv_aload_n hx hb dX11_nearest_81 rfl (lv_at hl 0 rfl) ?_
                  refine lv_iload hx hb dX11_nearest_82 (lv_at hl 4 rfl) ?_
                  obtain ⟨r84, hc84, hm⟩ := kbind hm
                  refine kcV0 (st1 := [.int r84]) X hA (c_X11_depthOf l G cI cZ cE a_t a_t_now a_t_text a_t_covers a_t_order a_t_way a_t_tried a_t_row a_t_lids a_t_shown a_t_seenKnot a_t_seenLid a_t_seenHad a_t_isKept a_t_kept k_t_knots k_t_readKnots k_t_length r20.1 k_t_acts k_t_next k_t_seen k_t_seed r20.2 v53_4 r84 hc84) (cwV 1 hts gX11_nearest_X11_depthOf rfl rfl rfl hd_X11_depthOf ⟨Nat.le_of_ble_eq_true rfl, Nat.le_of_ble_eq_true rfl⟩) 0 8 rfl rfl hl.1 dX11_nearest_84 hP hD hS [0, 2] rfl rfl rfl [] rfl (Nat.le_of_ble_eq_true rfl) rfl ⟨Nat.zero_le _, Nat.zero_le _⟩ (fun H locs hP hD hS => ?_)
                  refine lv_aload_n hx hb dX11_nearest_87 rfl (lv_at hl 0 rfl) ?_
                  refine lv_iload_n hx hb dX11_nearest_88 rfl (lv_at hl 3 rfl) ?_
                  obtain ⟨r89, hc89, hm⟩ := kbind hm
                  refine kcV0 (st1 := [.int r89, .int r84]) X hA (c_X11_depthOf l G cI cZ cE a_t a_t_now a_t_text a_t_covers a_t_order a_t_way a_t_tried a_t_row a_t_lids a_t_shown a_t_seenKnot a_t_seenLid a_t_seenHad a_t_isKept a_t_kept k_t_knots k_t_readKnots k_t_length r20.1 k_t_acts k_t_next k_t_seen k_t_seed r20.2 v53_3 r89 hc89) (cwV 1 hts gX11_nearest_X11_depthOf rfl rfl rfl hd_X11_depthOf ⟨Nat.le_of_ble_eq_true rfl, Nat.le_of_ble_eq_true rfl⟩) 0 8 rfl rfl hl.1 dX11_nearest_89 hP hD hS [0, 2] rfl rfl rfl [.int r84] rfl (Nat.le_of_ble_eq_true rfl) rfl ⟨Nat.zero_le _, Nat.zero_le _⟩ (fun H locs hP hD hS => ?_)
                  refine lv_icmp_le (tgt := 100) hx hb dX11_nearest_92 (by decide) (fun c92 => ?_) (fun c92 => ?_)
                  · rw [if_pos c92] at hm
                    refine lv_iload_n hx hb dX11_nearest_100 rfl (lv_at hl 3 rfl) ?_
                    refine lv_istore_n (lv' := [(3, .int v53_3), (0, .ref a_t), (1, .int p1), (2, .int p2), (4, .int v53_4)]) hx hb dX11_nearest_101 rfl hl (by decide) rfl (fun ls hl => ?_)
                    refine lv_iinc (v := v53_4 + 1) (lv' := [(4, .int (v53_4 + 1)), (3, .int v53_3), (0, .ref a_t), (1, .int p1), (2, .int p2)]) hx hb dX11_nearest_102 hl (k := 4) rfl rfl (by decide) rfl (fun ls hl => ?_)
                    refine lv_goto (tgt := 53) hx hb dX11_nearest_105 (by decide) ?_
                    exact ih53 v53_3 (v53_4 + 1) _ _ _ hP hD hS (lv_sub hl [2, 3, 4, 1, 0] rfl) hm
                  · rw [if_neg c92] at hm
                    refine lv_iload hx hb dX11_nearest_95 (lv_at hl 4 rfl) ?_
                    refine lv_goto (tgt := 101) hx hb dX11_nearest_97 (by decide) ?_
                    refine lv_istore_n (lv' := [(3, .int v53_4), (0, .ref a_t), (1, .int p1), (2, .int p2), (4, .int v53_4)]) hx hb dX11_nearest_101 rfl hl (by decide) rfl (fun ls hl => ?_)
                    refine lv_iinc (v := v53_4 + 1) (lv' := [(4, .int (v53_4 + 1)), (3, .int v53_4), (0, .ref a_t), (1, .int p1), (2, .int p2)]) hx hb dX11_nearest_102 hl (k := 4) rfl rfl (by decide) rfl (fun ls hl => ?_)
                    refine lv_goto (tgt := 53) hx hb dX11_nearest_105 (by decide) ?_
                    exact ih53 v53_4 (v53_4 + 1) _ _ _ hP hD hS (lv_sub hl [2, 3, 4, 1, 0] rfl) hm
          exact h53 kFU 0 0 _ _ _ hP hD hS (lv_sub hl [2, 3, 4, 1, 0] rfl) hm
        · have c42 := kb0 c42
          rw [if_neg c42] at hm
          refine lv_bipush (v := (-3)) hx hb dX11_nearest_45 (by decide) ?_
          have hm := Option.some.inj hm
          subst hm
          exact k_iret (v := (-3)) X rfl dX11_nearest_47 hP hD hS
    · have c13 := kb0 c13
      rw [if_neg c13] at hm
      refine lv_iconst (v := (-1)) hx hb dX11_nearest_16 (by decide) ?_
      have hm := Option.some.inj hm
      subst hm
      exact k_iret (v := (-1)) X rfl dX11_nearest_17 hP hD hS
theorem hd_X11_nearest : yX11_nearest.cls = RX11 ∧ yX11_nearest.cls ≠ "java/lang/invoke/MethodHandle" ∧ yX11_nearest.cls ≠ "java/lang/invoke/VarHandle" ∧ (parseMethodDescriptor yX11_nearest.desc).map (fun d => d.parameters.length) = some 2 := by decide +kernel
/-! CoverOrderModel would -/
set_option maxRecDepth 100000 in
set_option maxHeartbeats 4000000 in
theorem c_X11_would (l : Launch) (G : va_G) (cI cZ cE : ClassId) (a_t a_t_now a_t_text a_t_covers a_t_order a_t_way a_t_tried a_t_row a_t_lids a_t_shown a_t_seenKnot a_t_seenLid a_t_seenHad a_t_isKept a_t_kept : Nat) (k_t_knots : Int32) (k_t_readKnots : Int32) (k_t_length : Int32) (k_t_reached : Int32) (k_t_acts : Int32) (k_t_next : Int32) (k_t_seen : Int32) (k_t_seed : Int64) (f_t_now : Nat → Int32) (f_t_covers : Nat → Int32) (f_t_lids : Nat → Int32) (p1 : Int32) (p2 : Int32) (R : Int32 × Int32 × (Nat → Int32) × (Nat → Int32) × (Nat → Int32)) (hm : mX11_would k_t_knots k_t_reached f_t_now f_t_covers f_t_lids p1 p2 = some R) : kM l yX11_would wsX11_would { frames := 3, cells := 0, slots := 0, locals := 77 } G cI cZ cE [.ref a_t, .int p1, .int p2] [(a_t, .inr (8, [.int k_t_knots, .ref a_t_now, .int k_t_readKnots, .ref a_t_text, .int k_t_length, .ref a_t_covers, .int k_t_reached, .ref a_t_order, .ref a_t_way, .ref a_t_tried, .int k_t_acts, .int k_t_next, .ref a_t_row, .ref a_t_lids, .ref a_t_shown, .int k_t_seen, .ref a_t_seenKnot, .ref a_t_seenLid, .ref a_t_seenHad, .long k_t_seed, .ref a_t_isKept, .ref a_t_kept])), (a_t_now, .inl (cI, 100, .inl f_t_now)), (a_t_covers, .inl (cI, 8, .inl f_t_covers)), (a_t_lids, .inl (cI, 8, .inl f_t_lids))] [(a_t, .inr (8, [.int k_t_knots, .ref a_t_now, .int k_t_readKnots, .ref a_t_text, .int k_t_length, .ref a_t_covers, .int R.2.1, .ref a_t_order, .ref a_t_way, .ref a_t_tried, .int k_t_acts, .int k_t_next, .ref a_t_row, .ref a_t_lids, .ref a_t_shown, .int k_t_seen, .ref a_t_seenKnot, .ref a_t_seenLid, .ref a_t_seenHad, .long k_t_seed, .ref a_t_isKept, .ref a_t_kept])), (a_t_now, .inl (cI, 100, .inl R.2.2.1)), (a_t_covers, .inl (cI, 8, .inl R.2.2.2.1)), (a_t_lids, .inl (cI, 8, .inl R.2.2.2.2))] (some (.int R.1)) := by
  refine kM_of cX11_would 7 (some .int) RX11 (by decide) rfl rfl (Nat.le_of_ble_eq_true rfl) ?_
  intro p e s m below meth c A ls X hA hP hD hS hl
  have hx := X.1.1
  have hb := X.1.2.1
  have hts := X.1.2.2.2.2
  have hown := X.1.2.2.2.1
  have hK := X.2.2.2.1
  have l_110 : (.fieldLink RX11 110 "CoverOrderModel" "reached" "I" : Cond).before _ s = true := hts _ (List.mem_of_getElem? (i := 1) (by decide +kernel))
  have i_X11 : ∀ w ∈ u_ws RX11 TX11 22, w ∈ wsX11_would := k_in _ [57, 58, 59, 60, 61, 62, 63, 64, 65, 66, 67, 68, 69, 70, 71, 72, 73, 74, 75, 76, 77, 78] (by decide +kernel)
  have l_35 : (.fieldLink RX11 35 "CoverOrderModel" "lids" "[I" : Cond).before _ s = true := hts _ (List.mem_of_getElem? (i := 2) (by decide +kernel))
  have hl : lv_has ls 7 [(0, .ref a_t), (1, .int p1), (2, .int p2)] := hl
  rw [mX11_would] at hm
  refine lv_aload_n hx hb dX11_would_0 rfl (lv_at hl 0 rfl) ?_
  refine lv_iload_n hx hb dX11_would_1 rfl (lv_at hl 1 rfl) ?_
  refine kcV0 (st1 := [.int (bI (mX11_isKnot k_t_knots p1))]) X hA (c_X11_isKnot l G cI cZ cE a_t a_t_now a_t_text a_t_covers a_t_order a_t_way a_t_tried a_t_row a_t_lids a_t_shown a_t_seenKnot a_t_seenLid a_t_seenHad a_t_isKept a_t_kept k_t_knots k_t_readKnots k_t_length k_t_reached k_t_acts k_t_next k_t_seen k_t_seed p1 _ rfl) (cwV 1 hts gX11_would_X11_isKnot rfl rfl rfl hd_X11_isKnot ⟨Nat.le_of_ble_eq_true rfl, Nat.le_of_ble_eq_true rfl⟩) 0 8 rfl rfl hl.1 dX11_would_2 hP hD hS [0] rfl rfl rfl [] rfl (Nat.le_of_ble_eq_true rfl) rfl ⟨Nat.zero_le _, Nat.zero_le _⟩ (fun H locs hP hD hS => ?_)
  refine lv_if_eq (tgt := 16) hx hb dX11_would_5 (by decide) (fun c5 => ?_) (fun c5 => ?_)
  · have c5 := kb0 c5
    rw [if_neg c5] at hm
    refine lv_iconst (v := (-1)) hx hb dX11_would_16 (by decide) ?_
    have hm := Option.some.inj hm
    subst hm
    exact k_iret (v := (-1)) X rfl dX11_would_17 hP hD hS
  · have c5 := kb1 c5
    rw [if_pos c5] at hm
    refine lv_aload_n hx hb dX11_would_8 rfl (lv_at hl 0 rfl) ?_
    refine lv_iload_n hx hb dX11_would_9 rfl (lv_at hl 2 rfl) ?_
    refine kcV0 (st1 := [.int (bI (mX11_isKnot k_t_knots p2))]) X hA (c_X11_isKnot l G cI cZ cE a_t a_t_now a_t_text a_t_covers a_t_order a_t_way a_t_tried a_t_row a_t_lids a_t_shown a_t_seenKnot a_t_seenLid a_t_seenHad a_t_isKept a_t_kept k_t_knots k_t_readKnots k_t_length k_t_reached k_t_acts k_t_next k_t_seen k_t_seed p2 _ rfl) (cwV 1 hts gX11_would_X11_isKnot rfl rfl rfl hd_X11_isKnot ⟨Nat.le_of_ble_eq_true rfl, Nat.le_of_ble_eq_true rfl⟩) 0 8 rfl rfl hl.1 dX11_would_10 hP hD hS [0] rfl rfl rfl [] rfl (Nat.le_of_ble_eq_true rfl) rfl ⟨Nat.zero_le _, Nat.zero_le _⟩ (fun H locs hP hD hS => ?_)
    refine lv_if_ne (tgt := 18) hx hb dX11_would_13 (by decide) (fun c13 => ?_) (fun c13 => ?_)
    · have c13 := kb1 c13
      rw [if_pos c13] at hm
      refine lv_iload_n hx hb dX11_would_18 rfl (lv_at hl 1 rfl) ?_
      refine lv_iload_n hx hb dX11_would_19 rfl (lv_at hl 2 rfl) ?_
      refine lv_icmp_ne (tgt := 26) hx hb dX11_would_20 (by decide) (fun c20 => ?_) (fun c20 => ?_)
      · rw [if_neg c20] at hm
        refine lv_aload_n hx hb dX11_would_26 rfl (lv_at hl 0 rfl) ?_
        refine lv_iconst (v := 0) hx hb dX11_would_27 (by decide) ?_
        refine lv_iload_n hx hb dX11_would_28 rfl (lv_at hl 1 rfl) ?_
        refine lv_iload_n hx hb dX11_would_29 rfl (lv_at hl 2 rfl) ?_
        obtain ⟨r30, hc30, hm⟩ := kbind hm
        refine kcV0 (st1 := [.int r30]) X hA (c_X11_find l G cI cZ cE a_t a_t_now a_t_text a_t_covers a_t_order a_t_way a_t_tried a_t_row a_t_lids a_t_shown a_t_seenKnot a_t_seenLid a_t_seenHad a_t_isKept a_t_kept k_t_knots k_t_readKnots k_t_length k_t_reached k_t_acts k_t_next k_t_seen k_t_seed f_t_now 0 p1 p2 r30 hc30) (cwV 3 hts gX11_would_X11_find rfl rfl rfl hd_X11_find ⟨Nat.le_of_ble_eq_true rfl, Nat.le_of_ble_eq_true rfl⟩) 0 8 rfl rfl hl.1 dX11_would_30 hP hD hS [0, 1] rfl rfl rfl [] rfl (Nat.le_of_ble_eq_true rfl) rfl ⟨Nat.zero_le _, Nat.zero_le _⟩ (fun H locs hP hD hS => ?_)
        refine lv_istore_n (lv' := [(3, .int r30), (0, .ref a_t), (1, .int p1), (2, .int p2)]) hx hb dX11_would_33 rfl hl (by decide) rfl (fun ls hl => ?_)
        refine lv_iload_n hx hb dX11_would_34 rfl (lv_at hl 0 rfl) ?_
        refine lv_bipush (v := (-9)) hx hb dX11_would_35 (by decide) ?_
        have h53 : ∀ (H : Heap) (locs : List Loc) (ls : Array Slot), va_P G vwCl [(a_t, .inr (8, [.int k_t_knots, .ref a_t_now, .int k_t_readKnots, .ref a_t_text, .int k_t_length, .ref a_t_covers, .int k_t_reached, .ref a_t_order, .ref a_t_way, .ref a_t_tried, .int k_t_acts, .int k_t_next, .ref a_t_row, .ref a_t_lids, .ref a_t_shown, .int k_t_seen, .ref a_t_seenKnot, .ref a_t_seenLid, .ref a_t_seenHad, .long k_t_seed, .ref a_t_isKept, .ref a_t_kept])), (a_t_now, .inl (cI, 100, .inl f_t_now)), (a_t_covers, .inl (cI, 8, .inl f_t_covers)), (a_t_lids, .inl (cI, 8, .inl f_t_lids))] H → va_D A [(a_t, .inr (8, [.int k_t_knots, .ref a_t_now, .int k_t_readKnots, .ref a_t_text, .int k_t_length, .ref a_t_covers, .int k_t_reached, .ref a_t_order, .ref a_t_way, .ref a_t_tried, .int k_t_acts, .int k_t_next, .ref a_t_row, .ref a_t_lids, .ref a_t_shown, .int k_t_seen, .ref a_t_seenKnot, .ref a_t_seenLid, .ref a_t_seenHad, .long k_t_seed, .ref a_t_isKept, .ref a_t_kept])), (a_t_now, .inl (cI, 100, .inl f_t_now)), (a_t_covers, .inl (cI, 8, .inl f_t_covers)), (a_t_lids, .inl (cI, 8, .inl f_t_lids))] → va_S A s.heap H locs → lv_has ls 7 [(0, .ref a_t), (1, .int p1), (2, .int p2), (3, .int r30)] → mX11_would_J53 k_t_reached f_t_now f_t_covers f_t_lids p1 p2 r30 = some R → W p l e { frames := 3, cells := 0, slots := 0, locals := 77 } s m ([.ref a_t, .int p1, .int p2] : List Value).toArray below meth c H locs 0 0 (kQ below G [(a_t, .inr (8, [.int k_t_knots, .ref a_t_now, .int k_t_readKnots, .ref a_t_text, .int k_t_length, .ref a_t_covers, .int R.2.1, .ref a_t_order, .ref a_t_way, .ref a_t_tried, .int k_t_acts, .int k_t_next, .ref a_t_row, .ref a_t_lids, .ref a_t_shown, .int k_t_seen, .ref a_t_seenKnot, .ref a_t_seenLid, .ref a_t_seenHad, .long k_t_seed, .ref a_t_isKept, .ref a_t_kept])), (a_t_now, .inl (cI, 100, .inl R.2.2.1)), (a_t_covers, .inl (cI, 8, .inl R.2.2.2.1)), (a_t_lids, .inl (cI, 8, .inl R.2.2.2.2))] (some (.int R.1)) A ([.ref a_t, .int p1, .int p2] : List Value).toArray s) (F0 m 53 ls []) := by
          intro H locs ls hP hD hS hl hm
          rw [mX11_would_J53] at hm
          refine lv_aload_n hx hb dX11_would_53 rfl (lv_at hl 0 rfl) ?_
          refine lv_iconst (v := 0) hx hb dX11_would_54 (by decide) ?_
          obtain ⟨r55, hc55, hm⟩ := kbind hm
          refine kcV (ws1 := [(a_t, .inr (8, [.int k_t_knots, .ref a_t_now, .int k_t_readKnots, .ref a_t_text, .int k_t_length, .ref a_t_covers, .int r55.1, .ref a_t_order, .ref a_t_way, .ref a_t_tried, .int k_t_acts, .int k_t_next, .ref a_t_row, .ref a_t_lids, .ref a_t_shown, .int k_t_seen, .ref a_t_seenKnot, .ref a_t_seenLid, .ref a_t_seenHad, .long k_t_seed, .ref a_t_isKept, .ref a_t_kept])), (a_t_now, .inl (cI, 100, .inl f_t_now)), (a_t_covers, .inl (cI, 8, .inl r55.2)), (a_t_lids, .inl (cI, 8, .inl f_t_lids))]) (st1 := []) X hA (c_X11_findCovers l G cI cZ cE a_t a_t_now a_t_text a_t_covers a_t_order a_t_way a_t_tried a_t_row a_t_lids a_t_shown a_t_seenKnot a_t_seenLid a_t_seenHad a_t_isKept a_t_kept k_t_knots k_t_readKnots k_t_length k_t_reached k_t_acts k_t_next k_t_seen k_t_seed f_t_now f_t_covers 0 r55 hc55) (cwV 1 hts gX11_would_X11_findCovers rfl rfl rfl hd_X11_findCovers ⟨Nat.le_of_ble_eq_true rfl, Nat.le_of_ble_eq_true rfl⟩) 0 8 rfl rfl hl.1 dX11_would_55 hP hD hS [0, 1, 2] rfl rfl rfl rfl rfl [] rfl (Nat.le_of_ble_eq_true rfl) rfl ⟨Nat.zero_le _, Nat.zero_le _⟩ (fun H locs hP hD hS => ?_)
          refine lv_aload_n hx hb dX11_would_58 rfl (lv_at hl 0 rfl) ?_
          refine va_get (D := G) (ci := 8) (v := .int r55.1) (C := RX11) (T := TX11) (N := 22) hx hb hts i_X11 hown hK hP 0 rfl rfl 6 (by decide) l_110 (fun _ h9 => h9) rfl dX11_would_59 ?_
          refine lv_istore (lv' := [(4, .int r55.1), (0, .ref a_t), (1, .int p1), (2, .int p2), (3, .int r30)]) hx hb dX11_would_62 hl (by decide) rfl (fun ls hl => ?_)
          refine lv_iconst (v := 0) hx hb dX11_would_64 (by decide) ?_
          refine lv_istore (lv' := [(5, .int 0), (4, .int r55.1), (0, .ref a_t), (1, .int p1), (2, .int p2), (3, .int r30)]) hx hb dX11_would_65 hl (by decide) rfl (fun ls hl => ?_)
          have h67 : ∀ (n67 : Nat), ∀ (v67_5 : Int32) (w67_f_t_lids : Nat → Int32) (H : Heap) (locs : List Loc) (ls : Array Slot), va_P G vwCl [(a_t, .inr (8, [.int k_t_knots, .ref a_t_now, .int k_t_readKnots, .ref a_t_text, .int k_t_length, .ref a_t_covers, .int r55.1, .ref a_t_order, .ref a_t_way, .ref a_t_tried, .int k_t_acts, .int k_t_next, .ref a_t_row, .ref a_t_lids, .ref a_t_shown, .int k_t_seen, .ref a_t_seenKnot, .ref a_t_seenLid, .ref a_t_seenHad, .long k_t_seed, .ref a_t_isKept, .ref a_t_kept])), (a_t_now, .inl (cI, 100, .inl f_t_now)), (a_t_covers, .inl (cI, 8, .inl r55.2)), (a_t_lids, .inl (cI, 8, .inl w67_f_t_lids))] H → va_D A [(a_t, .inr (8, [.int k_t_knots, .ref a_t_now, .int k_t_readKnots, .ref a_t_text, .int k_t_length, .ref a_t_covers, .int r55.1, .ref a_t_order, .ref a_t_way, .ref a_t_tried, .int k_t_acts, .int k_t_next, .ref a_t_row, .ref a_t_lids, .ref a_t_shown, .int k_t_seen, .ref a_t_seenKnot, .ref a_t_seenLid, .ref a_t_seenHad, .long k_t_seed, .ref a_t_isKept, .ref a_t_kept])), (a_t_now, .inl (cI, 100, .inl f_t_now)), (a_t_covers, .inl (cI, 8, .inl r55.2)), (a_t_lids, .inl (cI, 8, .inl w67_f_t_lids))] → va_S A s.heap H locs → lv_has ls 7 [(0, .ref a_t), (1, .int p1), (2, .int p2), (3, .int r30), (4, .int r55.1), (5, .int v67_5)] → mX11_would_L67 f_t_now p1 p2 r30 r55 n67 v67_5 w67_f_t_lids = some R → W p l e { frames := 3, cells := 0, slots := 0, locals := 77 } s m ([.ref a_t, .int p1, .int p2] : List Value).toArray below meth c H locs 0 0 (kQ below G [(a_t, .inr (8, [.int k_t_knots, .ref a_t_now, .int k_t_readKnots, .ref a_t_text, .int k_t_length, .ref a_t_covers, .int R.2.1, .ref a_t_order, .ref a_t_way, .ref a_t_tried, .int k_t_acts, .int k_t_next, .ref a_t_row, .ref a_t_lids, .ref a_t_shown, .int k_t_seen, .ref a_t_seenKnot, .ref a_t_seenLid, .ref a_t_seenHad, .long k_t_seed, .ref a_t_isKept, .ref a_t_kept])), (a_t_now, .inl (cI, 100, .inl R.2.2.1)), (a_t_covers, .inl (cI, 8, .inl R.2.2.2.1)), (a_t_lids, .inl (cI, 8, .inl R.2.2.2.2))] (some (.int R.1)) A ([.ref a_t, .int p1, .int p2] : List Value).toArray s) (F0 m 67 ls []) := by
            intro n67
            induction n67 with
            | zero => intro v67_5 w67_f_t_lids H locs ls hP hD hS hl hm; rw [mX11_would_L67] at hm; cases hm
            | succ n67 ih67 =>
              intro v67_5 w67_f_t_lids H locs ls hP hD hS hl hm
              rw [mX11_would_L67] at hm
              refine lv_iload hx hb dX11_would_67 (lv_at hl 5 rfl) ?_
              refine lv_bipush (v := 8) hx hb dX11_would_69 (by decide) ?_
              have h93 : ∀ (H : Heap) (locs : List Loc) (ls : Array Slot), va_P G vwCl [(a_t, .inr (8, [.int k_t_knots, .ref a_t_now, .int k_t_readKnots, .ref a_t_text, .int k_t_length, .ref a_t_covers, .int r55.1, .ref a_t_order, .ref a_t_way, .ref a_t_tried, .int k_t_acts, .int k_t_next, .ref a_t_row, .ref a_t_lids, .ref a_t_shown, .int k_t_seen, .ref a_t_seenKnot, .ref a_t_seenLid, .ref a_t_seenHad, .long k_t_seed, .ref a_t_isKept, .ref a_t_kept])), (a_t_now, .inl (cI, 100, .inl f_t_now)), (a_t_covers, .inl (cI, 8, .inl r55.2)), (a_t_lids, .inl (cI, 8, .inl w67_f_t_lids))] H → va_D A [(a_t, .inr (8, [.int k_t_knots, .ref a_t_now, .int k_t_readKnots, .ref a_t_text, .int k_t_length, .ref a_t_covers, .int r55.1, .ref a_t_order, .ref a_t_way, .ref a_t_tried, .int k_t_acts, .int k_t_next, .ref a_t_row, .ref a_t_lids, .ref a_t_shown, .int k_t_seen, .ref a_t_seenKnot, .ref a_t_seenLid, .ref a_t_seenHad, .long k_t_seed, .ref a_t_isKept, .ref a_t_kept])), (a_t_now, .inl (cI, 100, .inl f_t_now)), (a_t_covers, .inl (cI, 8, .inl r55.2)), (a_t_lids, .inl (cI, 8, .inl w67_f_t_lids))] → va_S A s.heap H locs → lv_has ls 7 [(0, .ref a_t), (1, .int p1), (2, .int p2), (3, .int r30), (4, .int r55.1)] → mX11_would_J93 f_t_now p1 p2 r30 r55 w67_f_t_lids = some R → W p l e { frames := 3, cells := 0, slots := 0, locals := 77 } s m ([.ref a_t, .int p1, .int p2] : List Value).toArray below meth c H locs 0 0 (kQ below G [(a_t, .inr (8, [.int k_t_knots, .ref a_t_now, .int k_t_readKnots, .ref a_t_text, .int k_t_length, .ref a_t_covers, .int R.2.1, .ref a_t_order, .ref a_t_way, .ref a_t_tried, .int k_t_acts, .int k_t_next, .ref a_t_row, .ref a_t_lids, .ref a_t_shown, .int k_t_seen, .ref a_t_seenKnot, .ref a_t_seenLid, .ref a_t_seenHad, .long k_t_seed, .ref a_t_isKept, .ref a_t_kept])), (a_t_now, .inl (cI, 100, .inl R.2.2.1)), (a_t_covers, .inl (cI, 8, .inl R.2.2.2.1)), (a_t_lids, .inl (cI, 8, .inl R.2.2.2.2))] (some (.int R.1)) A ([.ref a_t, .int p1, .int p2] : List Value).toArray s) (F0 m 93 ls []) := by
                intro H locs ls hP hD hS hl hm
                rw [mX11_would_J93] at hm
                refine lv_aload_n hx hb dX11_would_93 rfl (lv_at hl 0 rfl) ?_
                obtain ⟨r94, hc94, hm⟩ := kbind hm
                refine kcV (ws1 := [(a_t, .inr (8, [.int k_t_knots, .ref a_t_now, .int k_t_readKnots, .ref a_t_text, .int k_t_length, .ref a_t_covers, .int r55.1, .ref a_t_order, .ref a_t_way, .ref a_t_tried, .int k_t_acts, .int k_t_next, .ref a_t_row, .ref a_t_lids, .ref a_t_shown, .int k_t_seen, .ref a_t_seenKnot, .ref a_t_seenLid, .ref a_t_seenHad, .long k_t_seed, .ref a_t_isKept, .ref a_t_kept])), (a_t_now, .inl (cI, 100, .inl r94)), (a_t_covers, .inl (cI, 8, .inl r55.2)), (a_t_lids, .inl (cI, 8, .inl w67_f_t_lids))]) (st1 := []) X hA (c_X11_layTrial l G cI cZ cE a_t a_t_now a_t_text a_t_covers a_t_order a_t_way a_t_tried a_t_row a_t_lids a_t_shown a_t_seenKnot a_t_seenLid a_t_seenHad a_t_isKept a_t_kept k_t_knots k_t_readKnots k_t_length r55.1 k_t_acts k_t_next k_t_seen k_t_seed f_t_now r94 hc94) (cwV 0 hts gX11_would_X11_layTrial rfl rfl rfl hd_X11_layTrial ⟨Nat.le_of_ble_eq_true rfl, Nat.le_of_ble_eq_true rfl⟩) 0 8 rfl rfl hl.1 dX11_would_94 hP hD hS [0, 1] rfl rfl rfl rfl rfl [] rfl (Nat.le_of_ble_eq_true rfl) rfl ⟨Nat.zero_le _, Nat.zero_le _⟩ (fun H locs hP hD hS => ?_)
                refine lv_iload_n hx hb dX11_would_97 rfl (lv_at hl 3 rfl) ?_
                refine lv_bipush (v := (-9)) hx hb dX11_would_98 (by decide) ?_
                have h119 : ∀ (w119_f_t_now : Nat → Int32) (H : Heap) (locs : List Loc) (ls : Array Slot), va_P G vwCl [(a_t, .inr (8, [.int k_t_knots, .ref a_t_now, .int k_t_readKnots, .ref a_t_text, .int k_t_length, .ref a_t_covers, .int r55.1, .ref a_t_order, .ref a_t_way, .ref a_t_tried, .int k_t_acts, .int k_t_next, .ref a_t_row, .ref a_t_lids, .ref a_t_shown, .int k_t_seen, .ref a_t_seenKnot, .ref a_t_seenLid, .ref a_t_seenHad, .long k_t_seed, .ref a_t_isKept, .ref a_t_kept])), (a_t_now, .inl (cI, 100, .inl w119_f_t_now)), (a_t_covers, .inl (cI, 8, .inl r55.2)), (a_t_lids, .inl (cI, 8, .inl w67_f_t_lids))] H → va_D A [(a_t, .inr (8, [.int k_t_knots, .ref a_t_now, .int k_t_readKnots, .ref a_t_text, .int k_t_length, .ref a_t_covers, .int r55.1, .ref a_t_order, .ref a_t_way, .ref a_t_tried, .int k_t_acts, .int k_t_next, .ref a_t_row, .ref a_t_lids, .ref a_t_shown, .int k_t_seen, .ref a_t_seenKnot, .ref a_t_seenLid, .ref a_t_seenHad, .long k_t_seed, .ref a_t_isKept, .ref a_t_kept])), (a_t_now, .inl (cI, 100, .inl w119_f_t_now)), (a_t_covers, .inl (cI, 8, .inl r55.2)), (a_t_lids, .inl (cI, 8, .inl w67_f_t_lids))] → va_S A s.heap H locs → lv_has ls 7 [(0, .ref a_t), (4, .int r55.1)] → mX11_would_J119 r55 w67_f_t_lids w119_f_t_now = some R → W p l e { frames := 3, cells := 0, slots := 0, locals := 77 } s m ([.ref a_t, .int p1, .int p2] : List Value).toArray below meth c H locs 0 0 (kQ below G [(a_t, .inr (8, [.int k_t_knots, .ref a_t_now, .int k_t_readKnots, .ref a_t_text, .int k_t_length, .ref a_t_covers, .int R.2.1, .ref a_t_order, .ref a_t_way, .ref a_t_tried, .int k_t_acts, .int k_t_next, .ref a_t_row, .ref a_t_lids, .ref a_t_shown, .int k_t_seen, .ref a_t_seenKnot, .ref a_t_seenLid, .ref a_t_seenHad, .long k_t_seed, .ref a_t_isKept, .ref a_t_kept])), (a_t_now, .inl (cI, 100, .inl R.2.2.1)), (a_t_covers, .inl (cI, 8, .inl R.2.2.2.1)), (a_t_lids, .inl (cI, 8, .inl R.2.2.2.2))] (some (.int R.1)) A ([.ref a_t, .int p1, .int p2] : List Value).toArray s) (F0 m 119 ls []) := by
                  intro w119_f_t_now H locs ls hP hD hS hl hm
                  rw [mX11_would_J119] at hm
                  refine lv_aload_n hx hb dX11_would_119 rfl (lv_at hl 0 rfl) ?_
                  refine lv_iconst (v := 1) hx hb dX11_would_120 (by decide) ?_
                  obtain ⟨r121, hc121, hm⟩ := kbind hm
                  refine kcV (ws1 := [(a_t, .inr (8, [.int k_t_knots, .ref a_t_now, .int k_t_readKnots, .ref a_t_text, .int k_t_length, .ref a_t_covers, .int r121.1, .ref a_t_order, .ref a_t_way, .ref a_t_tried, .int k_t_acts, .int k_t_next, .ref a_t_row, .ref a_t_lids, .ref a_t_shown, .int k_t_seen, .ref a_t_seenKnot, .ref a_t_seenLid, .ref a_t_seenHad, .long k_t_seed, .ref a_t_isKept, .ref a_t_kept])), (a_t_now, .inl (cI, 100, .inl w119_f_t_now)), (a_t_covers, .inl (cI, 8, .inl r121.2)), (a_t_lids, .inl (cI, 8, .inl w67_f_t_lids))]) (st1 := []) X hA (c_X11_findCovers l G cI cZ cE a_t a_t_now a_t_text a_t_covers a_t_order a_t_way a_t_tried a_t_row a_t_lids a_t_shown a_t_seenKnot a_t_seenLid a_t_seenHad a_t_isKept a_t_kept k_t_knots k_t_readKnots k_t_length r55.1 k_t_acts k_t_next k_t_seen k_t_seed w119_f_t_now r55.2 1 r121 hc121) (cwV 1 hts gX11_would_X11_findCovers rfl rfl rfl hd_X11_findCovers ⟨Nat.le_of_ble_eq_true rfl, Nat.le_of_ble_eq_true rfl⟩) 0 8 rfl rfl hl.1 dX11_would_121 hP hD hS [0, 1, 2] rfl rfl rfl rfl rfl [] rfl (Nat.le_of_ble_eq_true rfl) rfl ⟨Nat.zero_le _, Nat.zero_le _⟩ (fun H locs hP hD hS => ?_)
                  refine lv_iconst (v := 0) hx hb dX11_would_124 (by decide) ?_
                  refine lv_istore (lv' := [(5, .int 0), (0, .ref a_t), (4, .int r55.1)]) hx hb dX11_would_125 hl (by decide) rfl (fun ls hl => ?_)
                  refine lv_iconst (v := 0) hx hb dX11_would_127 (by decide) ?_
                  refine lv_istore (lv' := [(6, .int 0), (5, .int 0), (0, .ref a_t), (4, .int r55.1)]) hx hb dX11_would_128 hl (by decide) rfl (fun ls hl => ?_)
                  have h130 : ∀ (n130 : Nat), ∀ (v130_5 : Int32) (v130_6 : Int32) (H : Heap) (locs : List Loc) (ls : Array Slot), va_P G vwCl [(a_t, .inr (8, [.int k_t_knots, .ref a_t_now, .int k_t_readKnots, .ref a_t_text, .int k_t_length, .ref a_t_covers, .int r121.1, .ref a_t_order, .ref a_t_way, .ref a_t_tried, .int k_t_acts, .int k_t_next, .ref a_t_row, .ref a_t_lids, .ref a_t_shown, .int k_t_seen, .ref a_t_seenKnot, .ref a_t_seenLid, .ref a_t_seenHad, .long k_t_seed, .ref a_t_isKept, .ref a_t_kept])), (a_t_now, .inl (cI, 100, .inl w119_f_t_now)), (a_t_covers, .inl (cI, 8, .inl r121.2)), (a_t_lids, .inl (cI, 8, .inl w67_f_t_lids))] H → va_D A [(a_t, .inr (8, [.int k_t_knots, .ref a_t_now, .int k_t_readKnots, .ref a_t_text, .int k_t_length, .ref a_t_covers, .int r121.1, .ref a_t_order, .ref a_t_way, .ref a_t_tried, .int k_t_acts, .int k_t_next, .ref a_t_row, .ref a_t_lids, .ref a_t_shown, .int k_t_seen, .ref a_t_seenKnot, .ref a_t_seenLid, .ref a_t_seenHad, .long k_t_seed, .ref a_t_isKept, .ref a_t_kept])), (a_t_now, .inl (cI, 100, .inl w119_f_t_now)), (a_t_covers, .inl (cI, 8, .inl r121.2)), (a_t_lids, .inl (cI, 8, .inl w67_f_t_lids))] → va_S A s.heap H locs → lv_has ls 7 [(0, .ref a_t), (4, .int r55.1), (5, .int v130_5), (6, .int v130_6)] → mX11_would_L130 r55 w67_f_t_lids w119_f_t_now r121 n130 v130_5 v130_6 = some R → W p l e { frames := 3, cells := 0, slots := 0, locals := 77 } s m ([.ref a_t, .int p1, .int p2] : List Value).toArray below meth c H locs 0 0 (kQ below G [(a_t, .inr (8, [.int k_t_knots, .ref a_t_now, .int k_t_readKnots, .ref a_t_text, .int k_t_length, .ref a_t_covers, .int R.2.1, .ref a_t_order, .ref a_t_way, .ref a_t_tried, .int k_t_acts, .int k_t_next, .ref a_t_row, .ref a_t_lids, .ref a_t_shown, .int k_t_seen, .ref a_t_seenKnot, .ref a_t_seenLid, .ref a_t_seenHad, .long k_t_seed, .ref a_t_isKept, .ref a_t_kept])), (a_t_now, .inl (cI, 100, .inl R.2.2.1)), (a_t_covers, .inl (cI, 8, .inl R.2.2.2.1)), (a_t_lids, .inl (cI, 8, .inl R.2.2.2.2))] (some (.int R.1)) A ([.ref a_t, .int p1, .int p2] : List Value).toArray s) (F0 m 130 ls []) := by
                    intro n130
                    induction n130 with
                    | zero => intro v130_5 v130_6 H locs ls hP hD hS hl hm; rw [mX11_would_L130] at hm; cases hm
                    | succ n130 ih130 =>
                      intro v130_5 v130_6 H locs ls hP hD hS hl hm
                      rw [mX11_would_L130] at hm
                      refine lv_iload hx hb dX11_would_130 (lv_at hl 3 rfl) ?_
                      refine lv_bipush (v := 8) hx hb dX11_would_132 (by decide) ?_
                      refine lv_icmp_ge (tgt := 191) hx hb dX11_would_134 (by decide) (fun c134 => ?_) (fun c134 => ?_)
                      · rw [if_pos c134] at hm
                        refine lv_iload hx hb dX11_would_191 (lv_at hl 2 rfl) ?_
                        have hm := Option.some.inj hm
                        subst hm
                        exact k_iret (v := v130_5) X rfl dX11_would_193 hP hD hS
                      · rw [if_neg c134] at hm
                        refine lv_iload hx hb dX11_would_137 (lv_at hl 2 rfl) ?_
                        refine lv_iload hx hb dX11_would_139 (lv_at hl 1 rfl) ?_
                        refine lv_iload hx hb dX11_would_141 (lv_at hl 3 rfl) ?_
                        refine kcS0 (st1 := [.int (bI (mX11_has r55.1 v130_6)), .int v130_5]) X hA (c_X11_has l G cI cZ cE r55.1 v130_6 _ rfl) (va_cwS 2 hts gX11_would_X11_has rfl rfl rfl hd_X11_has ⟨Nat.le_of_ble_eq_true rfl, Nat.le_of_ble_eq_true rfl⟩) hl.1 dX11_would_143 hP hD hS [] rfl rfl rfl [.int v130_5] rfl (Nat.le_of_ble_eq_true rfl) rfl ⟨Nat.zero_le _, Nat.zero_le _⟩ (fun H locs hP hD hS => ?_)
                        refine lv_aload_n hx hb dX11_would_146 rfl (lv_at hl 0 rfl) ?_
                        refine va_get (D := G) (ci := 8) (v := .int r121.1) (C := RX11) (T := TX11) (N := 22) hx hb hts i_X11 hown hK hP 0 rfl rfl 6 (by decide) l_110 (fun _ h9 => h9) rfl dX11_would_147 ?_
                        refine lv_iload hx hb dX11_would_150 (lv_at hl 3 rfl) ?_
                        refine kcS0 (st1 := [.int (bI (mX11_has r121.1 v130_6)), .int (bI (mX11_has r55.1 v130_6)), .int v130_5]) X hA (c_X11_has l G cI cZ cE r121.1 v130_6 _ rfl) (va_cwS 2 hts gX11_would_X11_has rfl rfl rfl hd_X11_has ⟨Nat.le_of_ble_eq_true rfl, Nat.le_of_ble_eq_true rfl⟩) hl.1 dX11_would_152 hP hD hS [] rfl rfl rfl [.int (bI (mX11_has r55.1 v130_6)), .int v130_5] rfl (Nat.le_of_ble_eq_true rfl) rfl ⟨Nat.zero_le _, Nat.zero_le _⟩ (fun H locs hP hD hS => ?_)
                        refine lv_icmp_ne (tgt := 174) hx hb dX11_would_155 (by decide) (fun c155 => ?_) (fun c155 => ?_)
                        · rw [if_neg c155] at hm
                          refine lv_iconst (v := 1) hx hb dX11_would_174 (by decide) ?_
                          refine lv_iload hx hb dX11_would_175 (lv_at hl 3 rfl) ?_
                          refine lv_ishl hx hb dX11_would_177 ?_
                          refine lv_goto (tgt := 182) hx hb dX11_would_178 (by decide) ?_
                          refine lv_ior hx hb dX11_would_182 ?_
                          refine lv_istore (lv' := [(5, .int (v130_5 ||| (1 <<< (v130_6 &&& 31)))), (0, .ref a_t), (4, .int r55.1), (6, .int v130_6)]) hx hb dX11_would_183 hl (by decide) rfl (fun ls hl => ?_)
                          refine lv_iinc (v := v130_6 + 1) (lv' := [(6, .int (v130_6 + 1)), (5, .int (v130_5 ||| (1 <<< (v130_6 &&& 31)))), (0, .ref a_t), (4, .int r55.1)]) hx hb dX11_would_185 hl (k := 3) rfl rfl (by decide) rfl (fun ls hl => ?_)
                          refine lv_goto (tgt := 130) hx hb dX11_would_188 (by decide) ?_
                          exact ih130 (v130_5 ||| (1 <<< (v130_6 &&& 31))) (v130_6 + 1) _ _ _ hP hD hS (lv_sub hl [2, 3, 1, 0] rfl) hm
                        · rw [if_pos c155] at hm
                          refine lv_aload_n hx hb dX11_would_158 rfl (lv_at hl 0 rfl) ?_
                          refine lv_iload hx hb dX11_would_159 (lv_at hl 3 rfl) ?_
                          obtain ⟨r161, hc161, hm⟩ := kbind hm
                          refine kcV0 (st1 := [.int r161, .int v130_5]) X hA (c_X11_lidOf l G cI cZ cE a_t a_t_now a_t_text a_t_covers a_t_order a_t_way a_t_tried a_t_row a_t_lids a_t_shown a_t_seenKnot a_t_seenLid a_t_seenHad a_t_isKept a_t_kept k_t_knots k_t_readKnots k_t_length r121.1 k_t_acts k_t_next k_t_seen k_t_seed r121.2 v130_6 r161 hc161) (cwV 1 hts gX11_would_X11_lidOf rfl rfl rfl hd_X11_lidOf ⟨Nat.le_of_ble_eq_true rfl, Nat.le_of_ble_eq_true rfl⟩) 0 8 rfl rfl hl.1 dX11_would_161 hP hD hS [0, 2] rfl rfl rfl [.int v130_5] rfl (Nat.le_of_ble_eq_true rfl) rfl ⟨Nat.zero_le _, Nat.zero_le _⟩ (fun H locs hP hD hS => ?_)
                          refine lv_aload_n hx hb dX11_would_164 rfl (lv_at hl 0 rfl) ?_
                          refine va_get (D := G) (ci := 8) (v := .ref a_t_lids) (C := RX11) (T := TX11) (N := 22) hx hb hts i_X11 hown hK hP 0 rfl rfl 13 (by decide) l_35 (fun _ h9 => h9) rfl dX11_would_165 ?_
                          refine lv_iload hx hb dX11_would_168 (lv_at hl 3 rfl) ?_
                          obtain ⟨g170, hm⟩ := gd_some hm
                          refine va_iald hx hb hK hP 3 0 rfl rfl (kin_ok g170) dX11_would_170 ?_
                          refine lv_icmp_eq (tgt := 181) hx hb dX11_would_171 (by decide) (fun c171 => ?_) (fun c171 => ?_)
                          · rw [if_pos c171] at hm
                            refine lv_iconst (v := 0) hx hb dX11_would_181 (by decide) ?_
                            refine lv_ior hx hb dX11_would_182 ?_
                            refine lv_istore (lv' := [(5, .int (v130_5 ||| 0)), (0, .ref a_t), (4, .int r55.1), (6, .int v130_6)]) hx hb dX11_would_183 hl (by decide) rfl (fun ls hl => ?_)
                            refine lv_iinc (v := v130_6 + 1) (lv' := [(6, .int (v130_6 + 1)), (5, .int (v130_5 ||| 0)), (0, .ref a_t), (4, .int r55.1)]) hx hb dX11_would_185 hl (k := 3) rfl rfl (by decide) rfl (fun ls hl => ?_)
                            refine lv_goto (tgt := 130) hx hb dX11_would_188 (by decide) ?_
                            exact ih130 (v130_5 ||| 0) (v130_6 + 1) _ _ _ hP hD hS (lv_sub hl [2, 3, 1, 0] rfl) hm
                          · rw [if_neg c171] at hm
                            refine lv_iconst (v := 1) hx hb dX11_would_174 (by decide) ?_
                            refine lv_iload hx hb dX11_would_175 (lv_at hl 3 rfl) ?_
                            refine lv_ishl hx hb dX11_would_177 ?_
                            refine lv_goto (tgt := 182) hx hb dX11_would_178 (by decide) ?_
                            refine lv_ior hx hb dX11_would_182 ?_
                            refine lv_istore (lv' := [(5, .int (v130_5 ||| (1 <<< (v130_6 &&& 31)))), (0, .ref a_t), (4, .int r55.1), (6, .int v130_6)]) hx hb dX11_would_183 hl (by decide) rfl (fun ls hl => ?_)
                            refine lv_iinc (v := v130_6 + 1) (lv' := [(6, .int (v130_6 + 1)), (5, .int (v130_5 ||| (1 <<< (v130_6 &&& 31)))), (0, .ref a_t), (4, .int r55.1)]) hx hb dX11_would_185 hl (k := 3) rfl rfl (by decide) rfl (fun ls hl => ?_)
                            refine lv_goto (tgt := 130) hx hb dX11_would_188 (by decide) ?_
                            exact ih130 (v130_5 ||| (1 <<< (v130_6 &&& 31))) (v130_6 + 1) _ _ _ hP hD hS (lv_sub hl [2, 3, 1, 0] rfl) hm
                  exact h130 kFU 0 0 _ _ _ hP hD hS (lv_sub hl [2, 3, 1, 0] rfl) hm
                refine lv_icmp_ne (tgt := 113) hx hb dX11_would_100 (by decide) (fun c100 => ?_) (fun c100 => ?_)
                · rw [if_neg c100] at hm
                  refine lv_aload_n hx hb dX11_would_113 rfl (lv_at hl 0 rfl) ?_
                  refine lv_iconst (v := 1) hx hb dX11_would_114 (by decide) ?_
                  refine lv_iload_n hx hb dX11_would_115 rfl (lv_at hl 3 rfl) ?_
                  obtain ⟨r116, hc116, hm⟩ := kbind hm
                  refine kcV (ws1 := [(a_t, .inr (8, [.int k_t_knots, .ref a_t_now, .int k_t_readKnots, .ref a_t_text, .int k_t_length, .ref a_t_covers, .int r55.1, .ref a_t_order, .ref a_t_way, .ref a_t_tried, .int k_t_acts, .int k_t_next, .ref a_t_row, .ref a_t_lids, .ref a_t_shown, .int k_t_seen, .ref a_t_seenKnot, .ref a_t_seenLid, .ref a_t_seenHad, .long k_t_seed, .ref a_t_isKept, .ref a_t_kept])), (a_t_now, .inl (cI, 100, .inl r116)), (a_t_covers, .inl (cI, 8, .inl r55.2)), (a_t_lids, .inl (cI, 8, .inl w67_f_t_lids))]) (st1 := []) X hA (c_X11_deleteOn l G cI cZ cE a_t a_t_now a_t_text a_t_covers a_t_order a_t_way a_t_tried a_t_row a_t_lids a_t_shown a_t_seenKnot a_t_seenLid a_t_seenHad a_t_isKept a_t_kept k_t_knots k_t_readKnots k_t_length r55.1 k_t_acts k_t_next k_t_seen k_t_seed r94 1 r30 r116 hc116) (cwV 2 hts gX11_would_X11_deleteOn rfl rfl rfl hd_X11_deleteOn ⟨Nat.le_of_ble_eq_true rfl, Nat.le_of_ble_eq_true rfl⟩) 0 8 rfl rfl hl.1 dX11_would_116 hP hD hS [0, 1] rfl rfl rfl rfl rfl [] rfl (Nat.le_of_ble_eq_true rfl) rfl ⟨Nat.zero_le _, Nat.zero_le _⟩ (fun H locs hP hD hS => ?_)
                  exact h119 r116 _ _ _ hP hD hS (lv_sub hl [0, 4] rfl) hm
                · rw [if_pos c100] at hm
                  refine lv_aload_n hx hb dX11_would_103 rfl (lv_at hl 0 rfl) ?_
                  refine lv_iconst (v := 1) hx hb dX11_would_104 (by decide) ?_
                  refine lv_iload_n hx hb dX11_would_105 rfl (lv_at hl 1 rfl) ?_
                  refine lv_iload_n hx hb dX11_would_106 rfl (lv_at hl 2 rfl) ?_
                  obtain ⟨r107, hc107, hm⟩ := kbind hm
                  refine kcV (ws1 := [(a_t, .inr (8, [.int k_t_knots, .ref a_t_now, .int k_t_readKnots, .ref a_t_text, .int k_t_length, .ref a_t_covers, .int r55.1, .ref a_t_order, .ref a_t_way, .ref a_t_tried, .int k_t_acts, .int k_t_next, .ref a_t_row, .ref a_t_lids, .ref a_t_shown, .int k_t_seen, .ref a_t_seenKnot, .ref a_t_seenLid, .ref a_t_seenHad, .long k_t_seed, .ref a_t_isKept, .ref a_t_kept])), (a_t_now, .inl (cI, 100, .inl r107)), (a_t_covers, .inl (cI, 8, .inl r55.2)), (a_t_lids, .inl (cI, 8, .inl w67_f_t_lids))]) (st1 := []) X hA (c_X11_insertOn l G cI cZ cE a_t a_t_now a_t_text a_t_covers a_t_order a_t_way a_t_tried a_t_row a_t_lids a_t_shown a_t_seenKnot a_t_seenLid a_t_seenHad a_t_isKept a_t_kept k_t_knots k_t_readKnots k_t_length r55.1 k_t_acts k_t_next k_t_seen k_t_seed r94 1 p1 p2 r107 hc107) (cwV 3 hts gX11_would_X11_insertOn rfl rfl rfl hd_X11_insertOn ⟨Nat.le_of_ble_eq_true rfl, Nat.le_of_ble_eq_true rfl⟩) 0 8 rfl rfl hl.1 dX11_would_107 hP hD hS [0, 1] rfl rfl rfl rfl rfl [] rfl (Nat.le_of_ble_eq_true rfl) rfl ⟨Nat.zero_le _, Nat.zero_le _⟩ (fun H locs hP hD hS => ?_)
                  refine lv_goto (tgt := 119) hx hb dX11_would_110 (by decide) ?_
                  exact h119 r107 _ _ _ hP hD hS (lv_sub hl [0, 4] rfl) hm
              refine lv_icmp_ge (tgt := 93) hx hb dX11_would_71 (by decide) (fun c71 => ?_) (fun c71 => ?_)
              · rw [if_pos c71] at hm
                exact h93 _ _ _ hP hD hS (lv_sub hl [0, 1, 2, 3, 4] rfl) hm
              · rw [if_neg c71] at hm
                refine lv_aload_n hx hb dX11_would_74 rfl (lv_at hl 0 rfl) ?_
                refine va_get (D := G) (ci := 8) (v := .ref a_t_lids) (C := RX11) (T := TX11) (N := 22) hx hb hts i_X11 hown hK hP 0 rfl rfl 13 (by decide) l_35 (fun _ h9 => h9) rfl dX11_would_75 ?_
                refine lv_iload hx hb dX11_would_78 (lv_at hl 5 rfl) ?_
                refine lv_aload_n hx hb dX11_would_80 rfl (lv_at hl 0 rfl) ?_
                refine lv_iload hx hb dX11_would_81 (lv_at hl 5 rfl) ?_
                obtain ⟨r83, hc83, hm⟩ := kbind hm
                refine kcV0 (st1 := [.int r83, .int v67_5, .ref a_t_lids]) X hA (c_X11_lidOf l G cI cZ cE a_t a_t_now a_t_text a_t_covers a_t_order a_t_way a_t_tried a_t_row a_t_lids a_t_shown a_t_seenKnot a_t_seenLid a_t_seenHad a_t_isKept a_t_kept k_t_knots k_t_readKnots k_t_length r55.1 k_t_acts k_t_next k_t_seen k_t_seed r55.2 v67_5 r83 hc83) (cwV 1 hts gX11_would_X11_lidOf rfl rfl rfl hd_X11_lidOf ⟨Nat.le_of_ble_eq_true rfl, Nat.le_of_ble_eq_true rfl⟩) 0 8 rfl rfl hl.1 dX11_would_83 hP hD hS [0, 2] rfl rfl rfl [.int v67_5, .ref a_t_lids] rfl (Nat.le_of_ble_eq_true rfl) rfl ⟨Nat.zero_le _, Nat.zero_le _⟩ (fun H locs hP hD hS => ?_)
                obtain ⟨g86, hm⟩ := gd_some hm
                refine va_iast hx hb hK hP hD hS 3 0 rfl rfl (kin_ok g86) dX11_would_86 (fun H locs hP hD hS => ?_)
                have hP : va_P G vwCl [(a_t, .inr (8, [.int k_t_knots, .ref a_t_now, .int k_t_readKnots, .ref a_t_text, .int k_t_length, .ref a_t_covers, .int r55.1, .ref a_t_order, .ref a_t_way, .ref a_t_tried, .int k_t_acts, .int k_t_next, .ref a_t_row, .ref a_t_lids, .ref a_t_shown, .int k_t_seen, .ref a_t_seenKnot, .ref a_t_seenLid, .ref a_t_seenHad, .long k_t_seed, .ref a_t_isKept, .ref a_t_kept])), (a_t_now, .inl (cI, 100, .inl f_t_now)), (a_t_covers, .inl (cI, 8, .inl r55.2)), (a_t_lids, .inl (cI, 8, .inl (upd w67_f_t_lids (Int32.toNatClampNeg v67_5) r83)))] H := hP
                have hD : va_D A [(a_t, .inr (8, [.int k_t_knots, .ref a_t_now, .int k_t_readKnots, .ref a_t_text, .int k_t_length, .ref a_t_covers, .int r55.1, .ref a_t_order, .ref a_t_way, .ref a_t_tried, .int k_t_acts, .int k_t_next, .ref a_t_row, .ref a_t_lids, .ref a_t_shown, .int k_t_seen, .ref a_t_seenKnot, .ref a_t_seenLid, .ref a_t_seenHad, .long k_t_seed, .ref a_t_isKept, .ref a_t_kept])), (a_t_now, .inl (cI, 100, .inl f_t_now)), (a_t_covers, .inl (cI, 8, .inl r55.2)), (a_t_lids, .inl (cI, 8, .inl (upd w67_f_t_lids (Int32.toNatClampNeg v67_5) r83)))] := hD
                refine lv_iinc (v := v67_5 + 1) (lv' := [(5, .int (v67_5 + 1)), (0, .ref a_t), (1, .int p1), (2, .int p2), (3, .int r30), (4, .int r55.1)]) hx hb dX11_would_87 hl (k := 5) rfl rfl (by decide) rfl (fun ls hl => ?_)
                refine lv_goto (tgt := 67) hx hb dX11_would_90 (by decide) ?_
                exact ih67 (v67_5 + 1) (upd w67_f_t_lids (Int32.toNatClampNeg v67_5) r83) _ _ _ hP hD hS (lv_sub hl [1, 2, 3, 4, 5, 0] rfl) hm
          exact h67 kFU 0 f_t_lids _ _ _ hP hD hS (lv_sub hl [2, 3, 4, 5, 1, 0] rfl) hm
        refine lv_icmp_ne (tgt := 53) hx hb dX11_would_37 (by decide) (fun c37 => ?_) (fun c37 => ?_)
        · rw [if_neg c37] at hm
          exact h53 _ _ _ hP hD hS (lv_sub hl [1, 2, 3, 0] rfl) hm
        · rw [if_pos c37] at hm
          refine lv_aload_n hx hb dX11_would_40 rfl (lv_at hl 1 rfl) ?_
          refine lv_iconst (v := 0) hx hb dX11_would_41 (by decide) ?_
          obtain ⟨r42, hc42, hm⟩ := kbind hm
          refine kcV0 (st1 := [.int r42]) X hA (c_X11_many l G cI cZ cE a_t a_t_now a_t_text a_t_covers a_t_order a_t_way a_t_tried a_t_row a_t_lids a_t_shown a_t_seenKnot a_t_seenLid a_t_seenHad a_t_isKept a_t_kept k_t_knots k_t_readKnots k_t_length k_t_reached k_t_acts k_t_next k_t_seen k_t_seed f_t_now 0 r42 hc42) (cwV 1 hts gX11_would_X11_many rfl rfl rfl hd_X11_many ⟨Nat.le_of_ble_eq_true rfl, Nat.le_of_ble_eq_true rfl⟩) 0 8 rfl rfl hl.1 dX11_would_42 hP hD hS [0, 1] rfl rfl rfl [] rfl (Nat.le_of_ble_eq_true rfl) rfl ⟨Nat.zero_le _, Nat.zero_le _⟩ (fun H locs hP hD hS => ?_)
          refine lv_bipush (v := 24) hx hb dX11_would_45 (by decide) ?_
          refine lv_icmp_ne (tgt := 53) hx hb dX11_would_47 (by decide) (fun c47 => ?_) (fun c47 => ?_)
          · rw [if_neg c47] at hm
            exact h53 _ _ _ hP hD hS (lv_sub hl [1, 2, 3, 0] rfl) hm
          · rw [if_pos c47] at hm
            refine lv_bipush (v := (-4)) hx hb dX11_would_50 (by decide) ?_
            have hm := Option.some.inj hm
            subst hm
            exact k_iret (v := (-4)) X rfl dX11_would_52 hP hD hS
      · rw [if_pos c20] at hm
        refine lv_bipush (v := (-2)) hx hb dX11_would_23 (by decide) ?_
        have hm := Option.some.inj hm
        subst hm
        exact k_iret (v := (-2)) X rfl dX11_would_25 hP hD hS
    · have c13 := kb0 c13
      rw [if_neg c13] at hm
      refine lv_iconst (v := (-1)) hx hb dX11_would_16 (by decide) ?_
      have hm := Option.some.inj hm
      subst hm
      exact k_iret (v := (-1)) X rfl dX11_would_17 hP hD hS
theorem hd_X11_would : yX11_would.cls = RX11 ∧ yX11_would.cls ≠ "java/lang/invoke/MethodHandle" ∧ yX11_would.cls ≠ "java/lang/invoke/VarHandle" ∧ (parseMethodDescriptor yX11_would.desc).map (fun d => d.parameters.length) = some 2 := by decide +kernel
/-! CoverOrderModel isShown -/
set_option maxRecDepth 100000 in
set_option maxHeartbeats 4000000 in
theorem c_X11_isShown (l : Launch) (G : va_G) (cI cZ cE : ClassId) (a_t a_t_now a_t_text a_t_covers a_t_order a_t_way a_t_tried a_t_row a_t_lids a_t_shown a_t_seenKnot a_t_seenLid a_t_seenHad a_t_isKept a_t_kept : Nat) (k_t_knots : Int32) (k_t_readKnots : Int32) (k_t_length : Int32) (k_t_reached : Int32) (k_t_acts : Int32) (k_t_next : Int32) (k_t_seen : Int32) (k_t_seed : Int64) (f_t_now : Nat → Int32) (f_t_covers : Nat → Int32) (f_t_shown : Nat → Int32) (p1 : Int32) (p2 : Int32) (R : Bool) (hm : mX11_isShown k_t_reached f_t_now f_t_covers f_t_shown p1 p2 = some R) : kM l yX11_isShown wsX11_isShown { frames := 2, cells := 0, slots := 0, locals := 46 } G cI cZ cE [.ref a_t, .int p1, .int p2] [(a_t, .inr (8, [.int k_t_knots, .ref a_t_now, .int k_t_readKnots, .ref a_t_text, .int k_t_length, .ref a_t_covers, .int k_t_reached, .ref a_t_order, .ref a_t_way, .ref a_t_tried, .int k_t_acts, .int k_t_next, .ref a_t_row, .ref a_t_lids, .ref a_t_shown, .int k_t_seen, .ref a_t_seenKnot, .ref a_t_seenLid, .ref a_t_seenHad, .long k_t_seed, .ref a_t_isKept, .ref a_t_kept])), (a_t_now, .inl (cI, 100, .inl f_t_now)), (a_t_covers, .inl (cI, 8, .inl f_t_covers)), (a_t_shown, .inl (cI, 8, .inl f_t_shown))] [(a_t, .inr (8, [.int k_t_knots, .ref a_t_now, .int k_t_readKnots, .ref a_t_text, .int k_t_length, .ref a_t_covers, .int k_t_reached, .ref a_t_order, .ref a_t_way, .ref a_t_tried, .int k_t_acts, .int k_t_next, .ref a_t_row, .ref a_t_lids, .ref a_t_shown, .int k_t_seen, .ref a_t_seenKnot, .ref a_t_seenLid, .ref a_t_seenHad, .long k_t_seed, .ref a_t_isKept, .ref a_t_kept])), (a_t_now, .inl (cI, 100, .inl f_t_now)), (a_t_covers, .inl (cI, 8, .inl f_t_covers)), (a_t_shown, .inl (cI, 8, .inl f_t_shown))] (some (.int (bI R))) := by
  refine kM_of cX11_isShown 8 (some .boolean) RX11 (by decide) rfl rfl (Nat.le_of_ble_eq_true rfl) ?_
  intro p e s m below meth c A ls X hA hP hD hS hl
  have hx := X.1.1
  have hb := X.1.2.1
  have hts := X.1.2.2.2.2
  have hown := X.1.2.2.2.1
  have hK := X.2.2.2.1
  have l_38 : (.fieldLink RX11 38 "CoverOrderModel" "shown" "[I" : Cond).before _ s = true := hts _ (List.mem_of_getElem? (i := 1) (by decide +kernel))
  have i_X11 : ∀ w ∈ u_ws RX11 TX11 22, w ∈ wsX11_isShown := k_in _ [21, 22, 23, 24, 25, 26, 27, 28, 29, 30, 31, 32, 33, 34, 35, 36, 37, 38, 39, 40, 41, 42] (by decide +kernel)
  have l_20 : (.fieldLink RX11 20 "CoverOrderModel" "covers" "[I" : Cond).before _ s = true := hts _ (List.mem_of_getElem? (i := 2) (by decide +kernel))
  have hl : lv_has ls 8 [(0, .ref a_t), (1, .int p1), (2, .int p2)] := hl
  rw [mX11_isShown] at hm
  refine lv_aload_n hx hb dX11_isShown_0 rfl (lv_at hl 0 rfl) ?_
  refine va_get (D := G) (ci := 8) (v := .ref a_t_shown) (C := RX11) (T := TX11) (N := 22) hx hb hts i_X11 hown hK hP 0 rfl rfl 14 (by decide) l_38 (fun _ h9 => h9) rfl dX11_isShown_1 ?_
  refine lv_iload_n hx hb dX11_isShown_4 rfl (lv_at hl 1 rfl) ?_
  obtain ⟨g5, hm⟩ := gd_some hm
  refine va_iald hx hb hK hP 3 0 rfl rfl (kin_ok g5) dX11_isShown_5 ?_
  refine lv_istore_n (lv' := [(3, .int (f_t_shown (Int32.toNatClampNeg p1))), (0, .ref a_t), (1, .int p1), (2, .int p2)]) hx hb dX11_isShown_6 rfl hl (by decide) rfl (fun ls hl => ?_)
  refine lv_iconst (v := 0) hx hb dX11_isShown_7 (by decide) ?_
  refine lv_istore (lv' := [(4, .int 0), (3, .int (f_t_shown (Int32.toNatClampNeg p1))), (0, .ref a_t), (1, .int p1), (2, .int p2)]) hx hb dX11_isShown_8 hl (by decide) rfl (fun ls hl => ?_)
  refine lv_iconst (v := 0) hx hb dX11_isShown_10 (by decide) ?_
  refine lv_istore (lv' := [(5, .int 0), (4, .int 0), (3, .int (f_t_shown (Int32.toNatClampNeg p1))), (0, .ref a_t), (1, .int p1), (2, .int p2)]) hx hb dX11_isShown_11 hl (by decide) rfl (fun ls hl => ?_)
  refine lv_iconst (v := 0) hx hb dX11_isShown_13 (by decide) ?_
  refine lv_istore (lv' := [(6, .int 0), (5, .int 0), (4, .int 0), (3, .int (f_t_shown (Int32.toNatClampNeg p1))), (0, .ref a_t), (1, .int p1), (2, .int p2)]) hx hb dX11_isShown_14 hl (by decide) rfl (fun ls hl => ?_)
  have h16 : ∀ (n16 : Nat), ∀ (v16_4 : Bool) (v16_5 : Bool) (v16_6 : Int32) (H : Heap) (locs : List Loc) (ls : Array Slot), va_P G vwCl [(a_t, .inr (8, [.int k_t_knots, .ref a_t_now, .int k_t_readKnots, .ref a_t_text, .int k_t_length, .ref a_t_covers, .int k_t_reached, .ref a_t_order, .ref a_t_way, .ref a_t_tried, .int k_t_acts, .int k_t_next, .ref a_t_row, .ref a_t_lids, .ref a_t_shown, .int k_t_seen, .ref a_t_seenKnot, .ref a_t_seenLid, .ref a_t_seenHad, .long k_t_seed, .ref a_t_isKept, .ref a_t_kept])), (a_t_now, .inl (cI, 100, .inl f_t_now)), (a_t_covers, .inl (cI, 8, .inl f_t_covers)), (a_t_shown, .inl (cI, 8, .inl f_t_shown))] H → va_D A [(a_t, .inr (8, [.int k_t_knots, .ref a_t_now, .int k_t_readKnots, .ref a_t_text, .int k_t_length, .ref a_t_covers, .int k_t_reached, .ref a_t_order, .ref a_t_way, .ref a_t_tried, .int k_t_acts, .int k_t_next, .ref a_t_row, .ref a_t_lids, .ref a_t_shown, .int k_t_seen, .ref a_t_seenKnot, .ref a_t_seenLid, .ref a_t_seenHad, .long k_t_seed, .ref a_t_isKept, .ref a_t_kept])), (a_t_now, .inl (cI, 100, .inl f_t_now)), (a_t_covers, .inl (cI, 8, .inl f_t_covers)), (a_t_shown, .inl (cI, 8, .inl f_t_shown))] → va_S A s.heap H locs → lv_has ls 8 [(0, .ref a_t), (1, .int p1), (2, .int p2), (3, .int (f_t_shown (Int32.toNatClampNeg p1))), (4, .int (bI v16_4)), (5, .int (bI v16_5)), (6, .int v16_6)] → mX11_isShown_L16 k_t_reached f_t_now f_t_covers f_t_shown p1 p2 n16 v16_4 v16_5 v16_6 = some R → W p l e { frames := 2, cells := 0, slots := 0, locals := 46 } s m ([.ref a_t, .int p1, .int p2] : List Value).toArray below meth c H locs 0 0 (kQ below G [(a_t, .inr (8, [.int k_t_knots, .ref a_t_now, .int k_t_readKnots, .ref a_t_text, .int k_t_length, .ref a_t_covers, .int k_t_reached, .ref a_t_order, .ref a_t_way, .ref a_t_tried, .int k_t_acts, .int k_t_next, .ref a_t_row, .ref a_t_lids, .ref a_t_shown, .int k_t_seen, .ref a_t_seenKnot, .ref a_t_seenLid, .ref a_t_seenHad, .long k_t_seed, .ref a_t_isKept, .ref a_t_kept])), (a_t_now, .inl (cI, 100, .inl f_t_now)), (a_t_covers, .inl (cI, 8, .inl f_t_covers)), (a_t_shown, .inl (cI, 8, .inl f_t_shown))] (some (.int (bI R))) A ([.ref a_t, .int p1, .int p2] : List Value).toArray s) (F0 m 16 ls []) := by
    intro n16
    induction n16 with
    | zero => intro v16_4 v16_5 v16_6 H locs ls hP hD hS hl hm; rw [mX11_isShown_L16] at hm; cases hm
    | succ n16 ih16 =>
      intro v16_4 v16_5 v16_6 H locs ls hP hD hS hl hm
      rw [mX11_isShown_L16] at hm
      refine lv_iload hx hb dX11_isShown_16 (lv_at hl 6 rfl) ?_
      refine lv_iload_n hx hb dX11_isShown_18 rfl (lv_at hl 2 rfl) ?_
      have h118 : ∀ (H : Heap) (locs : List Loc) (ls : Array Slot), va_P G vwCl [(a_t, .inr (8, [.int k_t_knots, .ref a_t_now, .int k_t_readKnots, .ref a_t_text, .int k_t_length, .ref a_t_covers, .int k_t_reached, .ref a_t_order, .ref a_t_way, .ref a_t_tried, .int k_t_acts, .int k_t_next, .ref a_t_row, .ref a_t_lids, .ref a_t_shown, .int k_t_seen, .ref a_t_seenKnot, .ref a_t_seenLid, .ref a_t_seenHad, .long k_t_seed, .ref a_t_isKept, .ref a_t_kept])), (a_t_now, .inl (cI, 100, .inl f_t_now)), (a_t_covers, .inl (cI, 8, .inl f_t_covers)), (a_t_shown, .inl (cI, 8, .inl f_t_shown))] H → va_D A [(a_t, .inr (8, [.int k_t_knots, .ref a_t_now, .int k_t_readKnots, .ref a_t_text, .int k_t_length, .ref a_t_covers, .int k_t_reached, .ref a_t_order, .ref a_t_way, .ref a_t_tried, .int k_t_acts, .int k_t_next, .ref a_t_row, .ref a_t_lids, .ref a_t_shown, .int k_t_seen, .ref a_t_seenKnot, .ref a_t_seenLid, .ref a_t_seenHad, .long k_t_seed, .ref a_t_isKept, .ref a_t_kept])), (a_t_now, .inl (cI, 100, .inl f_t_now)), (a_t_covers, .inl (cI, 8, .inl f_t_covers)), (a_t_shown, .inl (cI, 8, .inl f_t_shown))] → va_S A s.heap H locs → lv_has ls 8 [(0, .ref a_t), (3, .int (f_t_shown (Int32.toNatClampNeg p1))), (4, .int (bI v16_4)), (5, .int (bI v16_5))] → mX11_isShown_J118 k_t_reached f_t_now f_t_covers f_t_shown p1 v16_4 v16_5 = some R → W p l e { frames := 2, cells := 0, slots := 0, locals := 46 } s m ([.ref a_t, .int p1, .int p2] : List Value).toArray below meth c H locs 0 0 (kQ below G [(a_t, .inr (8, [.int k_t_knots, .ref a_t_now, .int k_t_readKnots, .ref a_t_text, .int k_t_length, .ref a_t_covers, .int k_t_reached, .ref a_t_order, .ref a_t_way, .ref a_t_tried, .int k_t_acts, .int k_t_next, .ref a_t_row, .ref a_t_lids, .ref a_t_shown, .int k_t_seen, .ref a_t_seenKnot, .ref a_t_seenLid, .ref a_t_seenHad, .long k_t_seed, .ref a_t_isKept, .ref a_t_kept])), (a_t_now, .inl (cI, 100, .inl f_t_now)), (a_t_covers, .inl (cI, 8, .inl f_t_covers)), (a_t_shown, .inl (cI, 8, .inl f_t_shown))] (some (.int (bI R))) A ([.ref a_t, .int p1, .int p2] : List Value).toArray s) (F0 m 118 ls []) := by
        intro H locs ls hP hD hS hl hm
        rw [mX11_isShown_J118] at hm
        refine lv_aload_n hx hb dX11_isShown_118 rfl (lv_at hl 0 rfl) ?_
        refine lv_iconst (v := 0) hx hb dX11_isShown_119 (by decide) ?_
        refine lv_aload_n hx hb dX11_isShown_120 rfl (lv_at hl 0 rfl) ?_
        refine lv_iload_n hx hb dX11_isShown_121 rfl (lv_at hl 1 rfl) ?_
        obtain ⟨r122, hc122, hm⟩ := kbind hm
        refine kcV0 (st1 := [.int r122, .int 0, .ref a_t]) X hA (c_X11_lidOf l G cI cZ cE a_t a_t_now a_t_text a_t_covers a_t_order a_t_way a_t_tried a_t_row a_t_lids a_t_shown a_t_seenKnot a_t_seenLid a_t_seenHad a_t_isKept a_t_kept k_t_knots k_t_readKnots k_t_length k_t_reached k_t_acts k_t_next k_t_seen k_t_seed f_t_covers (f_t_shown (Int32.toNatClampNeg p1)) r122 hc122) (cwV 1 hts gX11_isShown_X11_lidOf rfl rfl rfl hd_X11_lidOf ⟨Nat.le_of_ble_eq_true rfl, Nat.le_of_ble_eq_true rfl⟩) 0 8 rfl rfl hl.1 dX11_isShown_122 hP hD hS [0, 2] rfl rfl rfl [.int 0, .ref a_t] rfl (Nat.le_of_ble_eq_true rfl) rfl ⟨Nat.zero_le _, Nat.zero_le _⟩ (fun H locs hP hD hS => ?_)
        refine lv_iload_n hx hb dX11_isShown_125 rfl (lv_at hl 1 rfl) ?_
        obtain ⟨r126, hc126, hm⟩ := kbind hm
        refine kcV0 (st1 := [.int r126]) X hA (c_X11_find l G cI cZ cE a_t a_t_now a_t_text a_t_covers a_t_order a_t_way a_t_tried a_t_row a_t_lids a_t_shown a_t_seenKnot a_t_seenLid a_t_seenHad a_t_isKept a_t_kept k_t_knots k_t_readKnots k_t_length k_t_reached k_t_acts k_t_next k_t_seen k_t_seed f_t_now 0 r122 (f_t_shown (Int32.toNatClampNeg p1)) r126 hc126) (cwV 3 hts gX11_isShown_X11_find rfl rfl rfl hd_X11_find ⟨Nat.le_of_ble_eq_true rfl, Nat.le_of_ble_eq_true rfl⟩) 0 8 rfl rfl hl.1 dX11_isShown_126 hP hD hS [0, 1] rfl rfl rfl [] rfl (Nat.le_of_ble_eq_true rfl) rfl ⟨Nat.zero_le _, Nat.zero_le _⟩ (fun H locs hP hD hS => ?_)
        refine lv_bipush (v := (-9)) hx hb dX11_isShown_129 (by decide) ?_
        refine lv_icmp_ne (tgt := 144) hx hb dX11_isShown_131 (by decide) (fun c131 => ?_) (fun c131 => ?_)
        · rw [if_neg c131] at hm
          refine lv_iconst (v := 1) hx hb dX11_isShown_144 (by decide) ?_
          refine lv_goto (tgt := 149) hx hb dX11_isShown_145 (by decide) ?_
          have hm := Option.some.inj hm
          subst hm
          exact k_zret (v := true) X rfl dX11_isShown_149 hP hD hS
        · rw [if_pos c131] at hm
          refine lv_iload hx hb dX11_isShown_134 (lv_at hl 2 rfl) ?_
          refine lv_if_eq (tgt := 148) hx hb dX11_isShown_136 (by decide) (fun c136 => ?_) (fun c136 => ?_)
          · have c136 := kb0 c136
            rw [if_neg c136] at hm
            refine lv_iconst (v := 0) hx hb dX11_isShown_148 (by decide) ?_
            have hm := Option.some.inj hm
            subst hm
            exact k_zret (v := false) X rfl dX11_isShown_149 hP hD hS
          · have c136 := kb1 c136
            rw [if_pos c136] at hm
            refine lv_iload hx hb dX11_isShown_139 (lv_at hl 3 rfl) ?_
            refine lv_if_eq (tgt := 148) hx hb dX11_isShown_141 (by decide) (fun c141 => ?_) (fun c141 => ?_)
            · have c141 := kb0 c141
              rw [if_neg c141] at hm
              refine lv_iconst (v := 0) hx hb dX11_isShown_148 (by decide) ?_
              have hm := Option.some.inj hm
              subst hm
              exact k_zret (v := false) X rfl dX11_isShown_149 hP hD hS
            · have c141 := kb1 c141
              rw [if_pos c141] at hm
              refine lv_iconst (v := 1) hx hb dX11_isShown_144 (by decide) ?_
              refine lv_goto (tgt := 149) hx hb dX11_isShown_145 (by decide) ?_
              have hm := Option.some.inj hm
              subst hm
              exact k_zret (v := true) X rfl dX11_isShown_149 hP hD hS
      refine lv_icmp_ge (tgt := 118) hx hb dX11_isShown_19 (by decide) (fun c19 => ?_) (fun c19 => ?_)
      · rw [if_pos c19] at hm
        exact h118 _ _ _ hP hD hS (lv_sub hl [0, 3, 4, 5] rfl) hm
      · rw [if_neg c19] at hm
        refine lv_aload_n hx hb dX11_isShown_22 rfl (lv_at hl 0 rfl) ?_
        refine lv_iconst (v := 0) hx hb dX11_isShown_23 (by decide) ?_
        refine lv_aload_n hx hb dX11_isShown_24 rfl (lv_at hl 0 rfl) ?_
        refine va_get (D := G) (ci := 8) (v := .ref a_t_shown) (C := RX11) (T := TX11) (N := 22) hx hb hts i_X11 hown hK hP 0 rfl rfl 14 (by decide) l_38 (fun _ h9 => h9) rfl dX11_isShown_25 ?_
        refine lv_iload hx hb dX11_isShown_28 (lv_at hl 6 rfl) ?_
        obtain ⟨g30, hm⟩ := gd_some hm
        refine va_iald hx hb hK hP 3 0 rfl rfl (kin_ok g30) dX11_isShown_30 ?_
        refine lv_iload_n hx hb dX11_isShown_31 rfl (lv_at hl 3 rfl) ?_
        obtain ⟨r32, hc32, hm⟩ := kbind hm
        refine kcV0 (st1 := [.int r32]) X hA (c_X11_find l G cI cZ cE a_t a_t_now a_t_text a_t_covers a_t_order a_t_way a_t_tried a_t_row a_t_lids a_t_shown a_t_seenKnot a_t_seenLid a_t_seenHad a_t_isKept a_t_kept k_t_knots k_t_readKnots k_t_length k_t_reached k_t_acts k_t_next k_t_seen k_t_seed f_t_now 0 (f_t_shown (Int32.toNatClampNeg v16_6)) (f_t_shown (Int32.toNatClampNeg p1)) r32 hc32) (cwV 3 hts gX11_isShown_X11_find rfl rfl rfl hd_X11_find ⟨Nat.le_of_ble_eq_true rfl, Nat.le_of_ble_eq_true rfl⟩) 0 8 rfl rfl hl.1 dX11_isShown_32 hP hD hS [0, 1] rfl rfl rfl [] rfl (Nat.le_of_ble_eq_true rfl) rfl ⟨Nat.zero_le _, Nat.zero_le _⟩ (fun H locs hP hD hS => ?_)
        refine lv_bipush (v := (-9)) hx hb dX11_isShown_35 (by decide) ?_
        have h45 : ∀ (s45_0 : Bool) (H : Heap) (locs : List Loc) (ls : Array Slot), va_P G vwCl [(a_t, .inr (8, [.int k_t_knots, .ref a_t_now, .int k_t_readKnots, .ref a_t_text, .int k_t_length, .ref a_t_covers, .int k_t_reached, .ref a_t_order, .ref a_t_way, .ref a_t_tried, .int k_t_acts, .int k_t_next, .ref a_t_row, .ref a_t_lids, .ref a_t_shown, .int k_t_seen, .ref a_t_seenKnot, .ref a_t_seenLid, .ref a_t_seenHad, .long k_t_seed, .ref a_t_isKept, .ref a_t_kept])), (a_t_now, .inl (cI, 100, .inl f_t_now)), (a_t_covers, .inl (cI, 8, .inl f_t_covers)), (a_t_shown, .inl (cI, 8, .inl f_t_shown))] H → va_D A [(a_t, .inr (8, [.int k_t_knots, .ref a_t_now, .int k_t_readKnots, .ref a_t_text, .int k_t_length, .ref a_t_covers, .int k_t_reached, .ref a_t_order, .ref a_t_way, .ref a_t_tried, .int k_t_acts, .int k_t_next, .ref a_t_row, .ref a_t_lids, .ref a_t_shown, .int k_t_seen, .ref a_t_seenKnot, .ref a_t_seenLid, .ref a_t_seenHad, .long k_t_seed, .ref a_t_isKept, .ref a_t_kept])), (a_t_now, .inl (cI, 100, .inl f_t_now)), (a_t_covers, .inl (cI, 8, .inl f_t_covers)), (a_t_shown, .inl (cI, 8, .inl f_t_shown))] → va_S A s.heap H locs → lv_has ls 8 [(0, .ref a_t), (1, .int p1), (2, .int p2), (3, .int (f_t_shown (Int32.toNatClampNeg p1))), (4, .int (bI v16_4)), (5, .int (bI v16_5)), (6, .int v16_6)] → mX11_isShown_J45 (mX11_isShown_L16 k_t_reached f_t_now f_t_covers f_t_shown p1 p2 n16) f_t_covers f_t_shown p1 v16_4 v16_5 v16_6 s45_0 = some R → W p l e { frames := 2, cells := 0, slots := 0, locals := 46 } s m ([.ref a_t, .int p1, .int p2] : List Value).toArray below meth c H locs 0 0 (kQ below G [(a_t, .inr (8, [.int k_t_knots, .ref a_t_now, .int k_t_readKnots, .ref a_t_text, .int k_t_length, .ref a_t_covers, .int k_t_reached, .ref a_t_order, .ref a_t_way, .ref a_t_tried, .int k_t_acts, .int k_t_next, .ref a_t_row, .ref a_t_lids, .ref a_t_shown, .int k_t_seen, .ref a_t_seenKnot, .ref a_t_seenLid, .ref a_t_seenHad, .long k_t_seed, .ref a_t_isKept, .ref a_t_kept])), (a_t_now, .inl (cI, 100, .inl f_t_now)), (a_t_covers, .inl (cI, 8, .inl f_t_covers)), (a_t_shown, .inl (cI, 8, .inl f_t_shown))] (some (.int (bI R))) A ([.ref a_t, .int p1, .int p2] : List Value).toArray s) (F0 m 45 ls [.int (bI s45_0)]) := by
          intro s45_0 H locs ls hP hD hS hl hm
          rw [mX11_isShown_J45] at hm
          refine lv_istore (lv' := [(7, .int (bI s45_0)), (0, .ref a_t), (1, .int p1), (2, .int p2), (3, .int (f_t_shown (Int32.toNatClampNeg p1))), (4, .int (bI v16_4)), (5, .int (bI v16_5)), (6, .int v16_6)]) hx hb dX11_isShown_45 hl (by decide) rfl (fun ls hl => ?_)
          refine lv_iload hx hb dX11_isShown_47 (lv_at hl 5 rfl) ?_
          have h68 : ∀ (s68_0 : Bool) (H : Heap) (locs : List Loc) (ls : Array Slot), va_P G vwCl [(a_t, .inr (8, [.int k_t_knots, .ref a_t_now, .int k_t_readKnots, .ref a_t_text, .int k_t_length, .ref a_t_covers, .int k_t_reached, .ref a_t_order, .ref a_t_way, .ref a_t_tried, .int k_t_acts, .int k_t_next, .ref a_t_row, .ref a_t_lids, .ref a_t_shown, .int k_t_seen, .ref a_t_seenKnot, .ref a_t_seenLid, .ref a_t_seenHad, .long k_t_seed, .ref a_t_isKept, .ref a_t_kept])), (a_t_now, .inl (cI, 100, .inl f_t_now)), (a_t_covers, .inl (cI, 8, .inl f_t_covers)), (a_t_shown, .inl (cI, 8, .inl f_t_shown))] H → va_D A [(a_t, .inr (8, [.int k_t_knots, .ref a_t_now, .int k_t_readKnots, .ref a_t_text, .int k_t_length, .ref a_t_covers, .int k_t_reached, .ref a_t_order, .ref a_t_way, .ref a_t_tried, .int k_t_acts, .int k_t_next, .ref a_t_row, .ref a_t_lids, .ref a_t_shown, .int k_t_seen, .ref a_t_seenKnot, .ref a_t_seenLid, .ref a_t_seenHad, .long k_t_seed, .ref a_t_isKept, .ref a_t_kept])), (a_t_now, .inl (cI, 100, .inl f_t_now)), (a_t_covers, .inl (cI, 8, .inl f_t_covers)), (a_t_shown, .inl (cI, 8, .inl f_t_shown))] → va_S A s.heap H locs → lv_has ls 8 [(0, .ref a_t), (1, .int p1), (2, .int p2), (3, .int (f_t_shown (Int32.toNatClampNeg p1))), (5, .int (bI v16_5)), (6, .int v16_6), (7, .int (bI s45_0))] → mX11_isShown_J68 (mX11_isShown_L16 k_t_reached f_t_now f_t_covers f_t_shown p1 p2 n16) f_t_covers f_t_shown p1 v16_5 v16_6 s45_0 s68_0 = some R → W p l e { frames := 2, cells := 0, slots := 0, locals := 46 } s m ([.ref a_t, .int p1, .int p2] : List Value).toArray below meth c H locs 0 0 (kQ below G [(a_t, .inr (8, [.int k_t_knots, .ref a_t_now, .int k_t_readKnots, .ref a_t_text, .int k_t_length, .ref a_t_covers, .int k_t_reached, .ref a_t_order, .ref a_t_way, .ref a_t_tried, .int k_t_acts, .int k_t_next, .ref a_t_row, .ref a_t_lids, .ref a_t_shown, .int k_t_seen, .ref a_t_seenKnot, .ref a_t_seenLid, .ref a_t_seenHad, .long k_t_seed, .ref a_t_isKept, .ref a_t_kept])), (a_t_now, .inl (cI, 100, .inl f_t_now)), (a_t_covers, .inl (cI, 8, .inl f_t_covers)), (a_t_shown, .inl (cI, 8, .inl f_t_shown))] (some (.int (bI R))) A ([.ref a_t, .int p1, .int p2] : List Value).toArray s) (F0 m 68 ls [.int (bI s68_0)]) := by
            intro s68_0 H locs ls hP hD hS hl hm
            rw [mX11_isShown_J68] at hm
            refine lv_istore (lv' := [(4, .int (bI s68_0)), (0, .ref a_t), (1, .int p1), (2, .int p2), (3, .int (f_t_shown (Int32.toNatClampNeg p1))), (5, .int (bI v16_5)), (6, .int v16_6), (7, .int (bI s45_0))]) hx hb dX11_isShown_68 hl (by decide) rfl (fun ls hl => ?_)
            refine lv_iload hx hb dX11_isShown_70 (lv_at hl 5 rfl) ?_
            refine lv_if_ne (tgt := 105) hx hb dX11_isShown_72 (by decide) (fun c72 => ?_) (fun c72 => ?_)
            · have c72 := kb1 c72
              rw [if_pos c72] at hm
              refine lv_iconst (v := 1) hx hb dX11_isShown_105 (by decide) ?_
              refine lv_goto (tgt := 110) hx hb dX11_isShown_106 (by decide) ?_
              refine lv_istore (lv' := [(5, .int 1), (4, .int (bI s68_0)), (0, .ref a_t), (1, .int p1), (2, .int p2), (3, .int (f_t_shown (Int32.toNatClampNeg p1))), (6, .int v16_6), (7, .int (bI s45_0))]) hx hb dX11_isShown_110 hl (by decide) rfl (fun ls hl => ?_)
              refine lv_iinc (v := v16_6 + 1) (lv' := [(6, .int (v16_6 + 1)), (5, .int 1), (4, .int (bI s68_0)), (0, .ref a_t), (1, .int p1), (2, .int p2), (3, .int (f_t_shown (Int32.toNatClampNeg p1))), (7, .int (bI s45_0))]) hx hb dX11_isShown_112 hl (k := 6) rfl rfl (by decide) rfl (fun ls hl => ?_)
              refine lv_goto (tgt := 16) hx hb dX11_isShown_115 (by decide) ?_
              exact ih16 s68_0 true (v16_6 + 1) _ _ _ hP hD hS (lv_sub hl [3, 4, 5, 6, 2, 1, 0] rfl) hm
            · have c72 := kb0 c72
              rw [if_neg c72] at hm
              refine lv_iload hx hb dX11_isShown_75 (lv_at hl 7 rfl) ?_
              refine lv_if_eq (tgt := 109) hx hb dX11_isShown_77 (by decide) (fun c77 => ?_) (fun c77 => ?_)
              · have c77 := kb0 c77
                rw [if_neg c77] at hm
                refine lv_iconst (v := 0) hx hb dX11_isShown_109 (by decide) ?_
                refine lv_istore (lv' := [(5, .int 0), (4, .int (bI s68_0)), (0, .ref a_t), (1, .int p1), (2, .int p2), (3, .int (f_t_shown (Int32.toNatClampNeg p1))), (6, .int v16_6), (7, .int (bI s45_0))]) hx hb dX11_isShown_110 hl (by decide) rfl (fun ls hl => ?_)
                refine lv_iinc (v := v16_6 + 1) (lv' := [(6, .int (v16_6 + 1)), (5, .int 0), (4, .int (bI s68_0)), (0, .ref a_t), (1, .int p1), (2, .int p2), (3, .int (f_t_shown (Int32.toNatClampNeg p1))), (7, .int (bI s45_0))]) hx hb dX11_isShown_112 hl (k := 6) rfl rfl (by decide) rfl (fun ls hl => ?_)
                refine lv_goto (tgt := 16) hx hb dX11_isShown_115 (by decide) ?_
                exact ih16 s68_0 false (v16_6 + 1) _ _ _ hP hD hS (lv_sub hl [3, 4, 5, 6, 2, 1, 0] rfl) hm
              · have c77 := kb1 c77
                rw [if_pos c77] at hm
                refine lv_iload hx hb dX11_isShown_80 (lv_at hl 6 rfl) ?_
                refine lv_iload_n hx hb dX11_isShown_82 rfl (lv_at hl 2 rfl) ?_
                refine lv_icmp_le (tgt := 109) hx hb dX11_isShown_83 (by decide) (fun c83 => ?_) (fun c83 => ?_)
                · rw [if_pos c83] at hm
                  refine lv_iconst (v := 0) hx hb dX11_isShown_109 (by decide) ?_
                  refine lv_istore (lv' := [(5, .int 0), (4, .int (bI s68_0)), (0, .ref a_t), (1, .int p1), (2, .int p2), (3, .int (f_t_shown (Int32.toNatClampNeg p1))), (6, .int v16_6), (7, .int (bI s45_0))]) hx hb dX11_isShown_110 hl (by decide) rfl (fun ls hl => ?_)
                  refine lv_iinc (v := v16_6 + 1) (lv' := [(6, .int (v16_6 + 1)), (5, .int 0), (4, .int (bI s68_0)), (0, .ref a_t), (1, .int p1), (2, .int p2), (3, .int (f_t_shown (Int32.toNatClampNeg p1))), (7, .int (bI s45_0))]) hx hb dX11_isShown_112 hl (k := 6) rfl rfl (by decide) rfl (fun ls hl => ?_)
                  refine lv_goto (tgt := 16) hx hb dX11_isShown_115 (by decide) ?_
                  exact ih16 s68_0 false (v16_6 + 1) _ _ _ hP hD hS (lv_sub hl [3, 4, 5, 6, 2, 1, 0] rfl) hm
                · rw [if_neg c83] at hm
                  refine lv_aload_n hx hb dX11_isShown_86 rfl (lv_at hl 1 rfl) ?_
                  refine va_get (D := G) (ci := 8) (v := .ref a_t_covers) (C := RX11) (T := TX11) (N := 22) hx hb hts i_X11 hown hK hP 0 rfl rfl 5 (by decide) l_20 (fun _ h9 => h9) rfl dX11_isShown_87 ?_
                  refine lv_aload_n hx hb dX11_isShown_90 rfl (lv_at hl 1 rfl) ?_
                  refine va_get (D := G) (ci := 8) (v := .ref a_t_shown) (C := RX11) (T := TX11) (N := 22) hx hb hts i_X11 hown hK hP 0 rfl rfl 14 (by decide) l_38 (fun _ h9 => h9) rfl dX11_isShown_91 ?_
                  refine lv_iload hx hb dX11_isShown_94 (lv_at hl 6 rfl) ?_
                  obtain ⟨g96, hm⟩ := gd_some hm
                  refine va_iald hx hb hK hP 3 0 rfl rfl (kin_ok g96) dX11_isShown_96 ?_
                  obtain ⟨g97, hm⟩ := gd_some hm
                  refine va_iald hx hb hK hP 2 0 rfl rfl (kin_ok g97) dX11_isShown_97 ?_
                  refine lv_iload_n hx hb dX11_isShown_98 rfl (lv_at hl 4 rfl) ?_
                  refine kcS0 (st1 := [.int (bI (mX11_has (f_t_covers (Int32.toNatClampNeg (f_t_shown (Int32.toNatClampNeg v16_6)))) (f_t_shown (Int32.toNatClampNeg p1))))]) X hA (c_X11_has l G cI cZ cE (f_t_covers (Int32.toNatClampNeg (f_t_shown (Int32.toNatClampNeg v16_6)))) (f_t_shown (Int32.toNatClampNeg p1)) _ rfl) (va_cwS 2 hts gX11_isShown_X11_has rfl rfl rfl hd_X11_has ⟨Nat.le_of_ble_eq_true rfl, Nat.le_of_ble_eq_true rfl⟩) hl.1 dX11_isShown_99 hP hD hS [] rfl rfl rfl [] rfl (Nat.le_of_ble_eq_true rfl) rfl ⟨Nat.zero_le _, Nat.zero_le _⟩ (fun H locs hP hD hS => ?_)
                  refine lv_if_ne (tgt := 109) hx hb dX11_isShown_102 (by decide) (fun c102 => ?_) (fun c102 => ?_)
                  · have c102 := kb1 c102
                    rw [if_pos c102] at hm
                    refine lv_iconst (v := 0) hx hb dX11_isShown_109 (by decide) ?_
                    refine lv_istore (lv' := [(5, .int 0), (4, .int (bI s68_0)), (0, .ref a_t), (1, .int p1), (2, .int p2), (3, .int (f_t_shown (Int32.toNatClampNeg p1))), (6, .int v16_6), (7, .int (bI s45_0))]) hx hb dX11_isShown_110 hl (by decide) rfl (fun ls hl => ?_)
                    refine lv_iinc (v := v16_6 + 1) (lv' := [(6, .int (v16_6 + 1)), (5, .int 0), (4, .int (bI s68_0)), (0, .ref a_t), (1, .int p1), (2, .int p2), (3, .int (f_t_shown (Int32.toNatClampNeg p1))), (7, .int (bI s45_0))]) hx hb dX11_isShown_112 hl (k := 6) rfl rfl (by decide) rfl (fun ls hl => ?_)
                    refine lv_goto (tgt := 16) hx hb dX11_isShown_115 (by decide) ?_
                    exact ih16 s68_0 false (v16_6 + 1) _ _ _ hP hD hS (lv_sub hl [3, 4, 5, 6, 2, 1, 0] rfl) hm
                  · have c102 := kb0 c102
                    rw [if_neg c102] at hm
                    refine lv_iconst (v := 1) hx hb dX11_isShown_105 (by decide) ?_
                    refine lv_goto (tgt := 110) hx hb dX11_isShown_106 (by decide) ?_
                    refine lv_istore (lv' := [(5, .int 1), (4, .int (bI s68_0)), (0, .ref a_t), (1, .int p1), (2, .int p2), (3, .int (f_t_shown (Int32.toNatClampNeg p1))), (6, .int v16_6), (7, .int (bI s45_0))]) hx hb dX11_isShown_110 hl (by decide) rfl (fun ls hl => ?_)
                    refine lv_iinc (v := v16_6 + 1) (lv' := [(6, .int (v16_6 + 1)), (5, .int 1), (4, .int (bI s68_0)), (0, .ref a_t), (1, .int p1), (2, .int p2), (3, .int (f_t_shown (Int32.toNatClampNeg p1))), (7, .int (bI s45_0))]) hx hb dX11_isShown_112 hl (k := 6) rfl rfl (by decide) rfl (fun ls hl => ?_)
                    refine lv_goto (tgt := 16) hx hb dX11_isShown_115 (by decide) ?_
                    exact ih16 s68_0 true (v16_6 + 1) _ _ _ hP hD hS (lv_sub hl [3, 4, 5, 6, 2, 1, 0] rfl) hm
          refine lv_if_ne (tgt := 63) hx hb dX11_isShown_49 (by decide) (fun c49 => ?_) (fun c49 => ?_)
          · have c49 := kb1 c49
            rw [if_pos c49] at hm
            refine lv_iconst (v := 1) hx hb dX11_isShown_63 (by decide) ?_
            refine lv_goto (tgt := 68) hx hb dX11_isShown_64 (by decide) ?_
            exact h68 true _ _ _ hP hD hS (lv_sub hl [1, 2, 3, 4, 6, 7, 0] rfl) hm
          · have c49 := kb0 c49
            rw [if_neg c49] at hm
            refine lv_iload hx hb dX11_isShown_52 (lv_at hl 0 rfl) ?_
            refine lv_if_eq (tgt := 67) hx hb dX11_isShown_54 (by decide) (fun c54 => ?_) (fun c54 => ?_)
            · have c54 := kb0 c54
              rw [if_neg c54] at hm
              refine lv_iconst (v := 0) hx hb dX11_isShown_67 (by decide) ?_
              exact h68 false _ _ _ hP hD hS (lv_sub hl [1, 2, 3, 4, 6, 7, 0] rfl) hm
            · have c54 := kb1 c54
              rw [if_pos c54] at hm
              refine lv_iload hx hb dX11_isShown_57 (lv_at hl 7 rfl) ?_
              refine lv_iload_n hx hb dX11_isShown_59 rfl (lv_at hl 2 rfl) ?_
              refine lv_icmp_ge (tgt := 67) hx hb dX11_isShown_60 (by decide) (fun c60 => ?_) (fun c60 => ?_)
              · rw [if_pos c60] at hm
                refine lv_iconst (v := 0) hx hb dX11_isShown_67 (by decide) ?_
                exact h68 false _ _ _ hP hD hS (lv_sub hl [1, 2, 3, 4, 6, 7, 0] rfl) hm
              · rw [if_neg c60] at hm
                refine lv_iconst (v := 1) hx hb dX11_isShown_63 (by decide) ?_
                refine lv_goto (tgt := 68) hx hb dX11_isShown_64 (by decide) ?_
                exact h68 true _ _ _ hP hD hS (lv_sub hl [1, 2, 3, 4, 6, 7, 0] rfl) hm
        refine lv_icmp_eq (tgt := 44) hx hb dX11_isShown_37 (by decide) (fun c37 => ?_) (fun c37 => ?_)
        · rw [if_pos c37] at hm
          refine lv_iconst (v := 0) hx hb dX11_isShown_44 (by decide) ?_
          exact h45 false _ _ _ hP hD hS (lv_sub hl [0, 1, 2, 3, 4, 5, 6] rfl) hm
        · rw [if_neg c37] at hm
          refine lv_iconst (v := 1) hx hb dX11_isShown_40 (by decide) ?_
          refine lv_goto (tgt := 45) hx hb dX11_isShown_41 (by decide) ?_
          exact h45 true _ _ _ hP hD hS (lv_sub hl [0, 1, 2, 3, 4, 5, 6] rfl) hm
  exact h16 kFU false false 0 _ _ _ hP hD hS (lv_sub hl [4, 5, 6, 3, 2, 1, 0] rfl) hm
theorem hd_X11_isShown : yX11_isShown.cls = RX11 ∧ yX11_isShown.cls ≠ "java/lang/invoke/MethodHandle" ∧ yX11_isShown.cls ≠ "java/lang/invoke/VarHandle" ∧ (parseMethodDescriptor yX11_isShown.desc).map (fun d => d.parameters.length) = some 2 := by decide +kernel
/-! CoverOrderModel firstWrong -/
set_option maxRecDepth 100000 in
set_option maxHeartbeats 4000000 in
theorem c_X11_firstWrong (l : Launch) (G : va_G) (cI cZ cE : ClassId) (a_t a_t_now a_t_text a_t_covers a_t_order a_t_way a_t_tried a_t_row a_t_lids a_t_shown a_t_seenKnot a_t_seenLid a_t_seenHad a_t_isKept a_t_kept : Nat) (k_t_knots : Int32) (k_t_readKnots : Int32) (k_t_length : Int32) (k_t_reached : Int32) (k_t_acts : Int32) (k_t_next : Int32) (k_t_seen : Int32) (k_t_seed : Int64) (f_t_now : Nat → Int32) (f_t_covers : Nat → Int32) (f_t_shown : Nat → Int32) (p1 : Int32) (R : Int32) (hm : mX11_firstWrong k_t_reached f_t_now f_t_covers f_t_shown p1 = some R) : kM l yX11_firstWrong wsX11_firstWrong { frames := 3, cells := 0, slots := 0, locals := 73 } G cI cZ cE [.ref a_t, .int p1] [(a_t, .inr (8, [.int k_t_knots, .ref a_t_now, .int k_t_readKnots, .ref a_t_text, .int k_t_length, .ref a_t_covers, .int k_t_reached, .ref a_t_order, .ref a_t_way, .ref a_t_tried, .int k_t_acts, .int k_t_next, .ref a_t_row, .ref a_t_lids, .ref a_t_shown, .int k_t_seen, .ref a_t_seenKnot, .ref a_t_seenLid, .ref a_t_seenHad, .long k_t_seed, .ref a_t_isKept, .ref a_t_kept])), (a_t_now, .inl (cI, 100, .inl f_t_now)), (a_t_covers, .inl (cI, 8, .inl f_t_covers)), (a_t_shown, .inl (cI, 8, .inl f_t_shown))] [(a_t, .inr (8, [.int k_t_knots, .ref a_t_now, .int k_t_readKnots, .ref a_t_text, .int k_t_length, .ref a_t_covers, .int k_t_reached, .ref a_t_order, .ref a_t_way, .ref a_t_tried, .int k_t_acts, .int k_t_next, .ref a_t_row, .ref a_t_lids, .ref a_t_shown, .int k_t_seen, .ref a_t_seenKnot, .ref a_t_seenLid, .ref a_t_seenHad, .long k_t_seed, .ref a_t_isKept, .ref a_t_kept])), (a_t_now, .inl (cI, 100, .inl f_t_now)), (a_t_covers, .inl (cI, 8, .inl f_t_covers)), (a_t_shown, .inl (cI, 8, .inl f_t_shown))] (some (.int R)) := by
  refine kM_of cX11_firstWrong 5 (some .int) RX11 (by decide) rfl rfl (Nat.le_of_ble_eq_true rfl) ?_
  intro p e s m below meth c A ls X hA hP hD hS hl
  have hx := X.1.1
  have hb := X.1.2.1
  have hts := X.1.2.2.2.2
  have hown := X.1.2.2.2.1
  have hK := X.2.2.2.1
  have l_38 : (.fieldLink RX11 38 "CoverOrderModel" "shown" "[I" : Cond).before _ s = true := hts _ (List.mem_of_getElem? (i := 1) (by decide +kernel))
  have i_X11 : ∀ w ∈ u_ws RX11 TX11 22, w ∈ wsX11_firstWrong := k_in _ [29, 30, 31, 32, 33, 34, 35, 36, 37, 38, 39, 40, 41, 42, 43, 44, 45, 46, 47, 48, 49, 50] (by decide +kernel)
  have k_155 : (.constantLong RX11 155 (7) : Cond).before _ s = true := hts _ (List.mem_of_getElem? (i := 2) (by decide +kernel))
  have l_110 : (.fieldLink RX11 110 "CoverOrderModel" "reached" "I" : Cond).before _ s = true := hts _ (List.mem_of_getElem? (i := 3) (by decide +kernel))
  have l_20 : (.fieldLink RX11 20 "CoverOrderModel" "covers" "[I" : Cond).before _ s = true := hts _ (List.mem_of_getElem? (i := 4) (by decide +kernel))
  have hl : lv_has ls 5 [(0, .ref a_t), (1, .int p1)] := hl
  rw [mX11_firstWrong] at hm
  refine lv_iconst (v := 0) hx hb dX11_firstWrong_0 (by decide) ?_
  refine lv_istore_n (lv' := [(2, .int 0), (0, .ref a_t), (1, .int p1)]) hx hb dX11_firstWrong_1 rfl hl (by decide) rfl (fun ls hl => ?_)
  refine lv_iconst (v := 0) hx hb dX11_firstWrong_2 (by decide) ?_
  refine lv_istore_n (lv' := [(3, .int 0), (2, .int 0), (0, .ref a_t), (1, .int p1)]) hx hb dX11_firstWrong_3 rfl hl (by decide) rfl (fun ls hl => ?_)
  have h4 : ∀ (n4 : Nat), ∀ (v4_2 : Int32) (v4_3 : Int32) (H : Heap) (locs : List Loc) (ls : Array Slot), va_P G vwCl [(a_t, .inr (8, [.int k_t_knots, .ref a_t_now, .int k_t_readKnots, .ref a_t_text, .int k_t_length, .ref a_t_covers, .int k_t_reached, .ref a_t_order, .ref a_t_way, .ref a_t_tried, .int k_t_acts, .int k_t_next, .ref a_t_row, .ref a_t_lids, .ref a_t_shown, .int k_t_seen, .ref a_t_seenKnot, .ref a_t_seenLid, .ref a_t_seenHad, .long k_t_seed, .ref a_t_isKept, .ref a_t_kept])), (a_t_now, .inl (cI, 100, .inl f_t_now)), (a_t_covers, .inl (cI, 8, .inl f_t_covers)), (a_t_shown, .inl (cI, 8, .inl f_t_shown))] H → va_D A [(a_t, .inr (8, [.int k_t_knots, .ref a_t_now, .int k_t_readKnots, .ref a_t_text, .int k_t_length, .ref a_t_covers, .int k_t_reached, .ref a_t_order, .ref a_t_way, .ref a_t_tried, .int k_t_acts, .int k_t_next, .ref a_t_row, .ref a_t_lids, .ref a_t_shown, .int k_t_seen, .ref a_t_seenKnot, .ref a_t_seenLid, .ref a_t_seenHad, .long k_t_seed, .ref a_t_isKept, .ref a_t_kept])), (a_t_now, .inl (cI, 100, .inl f_t_now)), (a_t_covers, .inl (cI, 8, .inl f_t_covers)), (a_t_shown, .inl (cI, 8, .inl f_t_shown))] → va_S A s.heap H locs → lv_has ls 5 [(0, .ref a_t), (1, .int p1), (2, .int v4_2), (3, .int v4_3)] → mX11_firstWrong_L4 k_t_reached f_t_now f_t_covers f_t_shown p1 n4 v4_2 v4_3 = some R → W p l e { frames := 3, cells := 0, slots := 0, locals := 73 } s m ([.ref a_t, .int p1] : List Value).toArray below meth c H locs 0 0 (kQ below G [(a_t, .inr (8, [.int k_t_knots, .ref a_t_now, .int k_t_readKnots, .ref a_t_text, .int k_t_length, .ref a_t_covers, .int k_t_reached, .ref a_t_order, .ref a_t_way, .ref a_t_tried, .int k_t_acts, .int k_t_next, .ref a_t_row, .ref a_t_lids, .ref a_t_shown, .int k_t_seen, .ref a_t_seenKnot, .ref a_t_seenLid, .ref a_t_seenHad, .long k_t_seed, .ref a_t_isKept, .ref a_t_kept])), (a_t_now, .inl (cI, 100, .inl f_t_now)), (a_t_covers, .inl (cI, 8, .inl f_t_covers)), (a_t_shown, .inl (cI, 8, .inl f_t_shown))] (some (.int R)) A ([.ref a_t, .int p1] : List Value).toArray s) (F0 m 4 ls []) := by
    intro n4
    induction n4 with
    | zero => intro v4_2 v4_3 H locs ls hP hD hS hl hm; rw [mX11_firstWrong_L4] at hm; cases hm
    | succ n4 ih4 =>
      intro v4_2 v4_3 H locs ls hP hD hS hl hm
      rw [mX11_firstWrong_L4] at hm
      refine lv_iload_n hx hb dX11_firstWrong_4 rfl (lv_at hl 3 rfl) ?_
      refine lv_iload_n hx hb dX11_firstWrong_5 rfl (lv_at hl 1 rfl) ?_
      refine lv_icmp_ge (tgt := 106) hx hb dX11_firstWrong_6 (by decide) (fun c6 => ?_) (fun c6 => ?_)
      · rw [if_pos c6] at hm
        refine lv_iconst (v := 1) hx hb dX11_firstWrong_106 (by decide) ?_
        refine lv_istore_n (lv' := [(3, .int 1), (0, .ref a_t), (1, .int p1), (2, .int v4_2)]) hx hb dX11_firstWrong_107 rfl hl (by decide) rfl (fun ls hl => ?_)
        have h108 : ∀ (n108 : Nat), ∀ (v108_3 : Int32) (H : Heap) (locs : List Loc) (ls : Array Slot), va_P G vwCl [(a_t, .inr (8, [.int k_t_knots, .ref a_t_now, .int k_t_readKnots, .ref a_t_text, .int k_t_length, .ref a_t_covers, .int k_t_reached, .ref a_t_order, .ref a_t_way, .ref a_t_tried, .int k_t_acts, .int k_t_next, .ref a_t_row, .ref a_t_lids, .ref a_t_shown, .int k_t_seen, .ref a_t_seenKnot, .ref a_t_seenLid, .ref a_t_seenHad, .long k_t_seed, .ref a_t_isKept, .ref a_t_kept])), (a_t_now, .inl (cI, 100, .inl f_t_now)), (a_t_covers, .inl (cI, 8, .inl f_t_covers)), (a_t_shown, .inl (cI, 8, .inl f_t_shown))] H → va_D A [(a_t, .inr (8, [.int k_t_knots, .ref a_t_now, .int k_t_readKnots, .ref a_t_text, .int k_t_length, .ref a_t_covers, .int k_t_reached, .ref a_t_order, .ref a_t_way, .ref a_t_tried, .int k_t_acts, .int k_t_next, .ref a_t_row, .ref a_t_lids, .ref a_t_shown, .int k_t_seen, .ref a_t_seenKnot, .ref a_t_seenLid, .ref a_t_seenHad, .long k_t_seed, .ref a_t_isKept, .ref a_t_kept])), (a_t_now, .inl (cI, 100, .inl f_t_now)), (a_t_covers, .inl (cI, 8, .inl f_t_covers)), (a_t_shown, .inl (cI, 8, .inl f_t_shown))] → va_S A s.heap H locs → lv_has ls 5 [(0, .ref a_t), (1, .int p1), (3, .int v108_3)] → mX11_firstWrong_L108 k_t_reached f_t_now f_t_covers f_t_shown p1 n108 v108_3 = some R → W p l e { frames := 3, cells := 0, slots := 0, locals := 73 } s m ([.ref a_t, .int p1] : List Value).toArray below meth c H locs 0 0 (kQ below G [(a_t, .inr (8, [.int k_t_knots, .ref a_t_now, .int k_t_readKnots, .ref a_t_text, .int k_t_length, .ref a_t_covers, .int k_t_reached, .ref a_t_order, .ref a_t_way, .ref a_t_tried, .int k_t_acts, .int k_t_next, .ref a_t_row, .ref a_t_lids, .ref a_t_shown, .int k_t_seen, .ref a_t_seenKnot, .ref a_t_seenLid, .ref a_t_seenHad, .long k_t_seed, .ref a_t_isKept, .ref a_t_kept])), (a_t_now, .inl (cI, 100, .inl f_t_now)), (a_t_covers, .inl (cI, 8, .inl f_t_covers)), (a_t_shown, .inl (cI, 8, .inl f_t_shown))] (some (.int R)) A ([.ref a_t, .int p1] : List Value).toArray s) (F0 m 108 ls []) := by
          intro n108
          induction n108 with
          | zero => intro v108_3 H locs ls hP hD hS hl hm; rw [mX11_firstWrong_L108] at hm; cases hm
          | succ n108 ih108 =>
            intro v108_3 H locs ls hP hD hS hl hm
            rw [mX11_firstWrong_L108] at hm
            refine lv_iload_n hx hb dX11_firstWrong_108 rfl (lv_at hl 2 rfl) ?_
            refine lv_iload_n hx hb dX11_firstWrong_109 rfl (lv_at hl 1 rfl) ?_
            refine lv_icmp_ge (tgt := 130) hx hb dX11_firstWrong_110 (by decide) (fun c110 => ?_) (fun c110 => ?_)
            · rw [if_pos c110] at hm
              refine lv_bipush (v := (-9)) hx hb dX11_firstWrong_130 (by decide) ?_
              have hm := Option.some.inj hm
              subst hm
              exact k_iret (v := (-9)) X rfl dX11_firstWrong_132 hP hD hS
            · rw [if_neg c110] at hm
              refine lv_aload_n hx hb dX11_firstWrong_113 rfl (lv_at hl 0 rfl) ?_
              refine lv_iload_n hx hb dX11_firstWrong_114 rfl (lv_at hl 2 rfl) ?_
              refine lv_iload_n hx hb dX11_firstWrong_115 rfl (lv_at hl 1 rfl) ?_
              obtain ⟨r116, hc116, hm⟩ := kbind hm
              refine kcV0 (st1 := [.int (bI r116)]) X hA (c_X11_isShown l G cI cZ cE a_t a_t_now a_t_text a_t_covers a_t_order a_t_way a_t_tried a_t_row a_t_lids a_t_shown a_t_seenKnot a_t_seenLid a_t_seenHad a_t_isKept a_t_kept k_t_knots k_t_readKnots k_t_length k_t_reached k_t_acts k_t_next k_t_seen k_t_seed f_t_now f_t_covers f_t_shown v108_3 p1 r116 hc116) (cwV 2 hts gX11_firstWrong_X11_isShown rfl rfl rfl hd_X11_isShown ⟨Nat.le_of_ble_eq_true rfl, Nat.le_of_ble_eq_true rfl⟩) 0 8 rfl rfl hl.1 dX11_firstWrong_116 hP hD hS [0, 1, 2, 3] rfl rfl rfl [] rfl (Nat.le_of_ble_eq_true rfl) rfl ⟨Nat.zero_le _, Nat.zero_le _⟩ (fun H locs hP hD hS => ?_)
              refine lv_if_ne (tgt := 124) hx hb dX11_firstWrong_119 (by decide) (fun c119 => ?_) (fun c119 => ?_)
              · have c119 := kb1 c119
                rw [if_pos c119] at hm
                refine lv_iinc (v := v108_3 + 1) (lv' := [(3, .int (v108_3 + 1)), (0, .ref a_t), (1, .int p1)]) hx hb dX11_firstWrong_124 hl (k := 2) rfl rfl (by decide) rfl (fun ls hl => ?_)
                refine lv_goto (tgt := 108) hx hb dX11_firstWrong_127 (by decide) ?_
                exact ih108 (v108_3 + 1) _ _ _ hP hD hS (lv_sub hl [1, 2, 0] rfl) hm
              · have c119 := kb0 c119
                rw [if_neg c119] at hm
                refine lv_iload_n hx hb dX11_firstWrong_122 rfl (lv_at hl 2 rfl) ?_
                have hm := Option.some.inj hm
                subst hm
                exact k_iret (v := v108_3) X rfl dX11_firstWrong_123 hP hD hS
        exact h108 kFU 1 _ _ _ hP hD hS (lv_sub hl [1, 2, 0] rfl) hm
      · rw [if_neg c6] at hm
        refine lv_aload_n hx hb dX11_firstWrong_9 rfl (lv_at hl 0 rfl) ?_
        refine va_get (D := G) (ci := 8) (v := .ref a_t_shown) (C := RX11) (T := TX11) (N := 22) hx hb hts i_X11 hown hK hP 0 rfl rfl 14 (by decide) l_38 (fun _ h9 => h9) rfl dX11_firstWrong_10 ?_
        refine lv_iload_n hx hb dX11_firstWrong_13 rfl (lv_at hl 3 rfl) ?_
        obtain ⟨g14, hm⟩ := gd_some hm
        refine va_iald hx hb hK hP 3 0 rfl rfl (kin_ok g14) dX11_firstWrong_14 ?_
        refine lv_istore (lv' := [(4, .int (f_t_shown (Int32.toNatClampNeg v4_3))), (0, .ref a_t), (1, .int p1), (2, .int v4_2), (3, .int v4_3)]) hx hb dX11_firstWrong_15 hl (by decide) rfl (fun ls hl => ?_)
        refine lv_iload hx hb dX11_firstWrong_17 (lv_at hl 0 rfl) ?_
        refine lv_i2l (v := (f_t_shown (Int32.toNatClampNeg v4_3) : Int32).toInt64) hx hb dX11_firstWrong_19 rfl ?_
        refine lv_lconst (v := 0) hx hb dX11_firstWrong_20 (by decide) ?_
        refine lv_ldc2 (v := 7) hx hb hown k_155 dX11_firstWrong_21 ?_
        refine kcS0 (st1 := [.int (bI (mX11_in ((f_t_shown (Int32.toNatClampNeg v4_3) : Int32).toInt64) 0 7))]) X hA (c_X11_in l G cI cZ cE ((f_t_shown (Int32.toNatClampNeg v4_3) : Int32).toInt64) 0 7 _ rfl) (va_cwS 3 hts gX11_firstWrong_X11_in rfl rfl rfl hd_X11_in ⟨Nat.le_of_ble_eq_true rfl, Nat.le_of_ble_eq_true rfl⟩) hl.1 dX11_firstWrong_24 hP hD hS [] rfl rfl rfl [] rfl (Nat.le_of_ble_eq_true rfl) rfl ⟨Nat.zero_le _, Nat.zero_le _⟩ (fun H locs hP hD hS => ?_)
        refine lv_if_eq (tgt := 60) hx hb dX11_firstWrong_27 (by decide) (fun c27 => ?_) (fun c27 => ?_)
        · have c27 := kb0 c27
          rw [if_neg c27] at hm
          refine lv_iload_n hx hb dX11_firstWrong_60 rfl (lv_at hl 4 rfl) ?_
          have hm := Option.some.inj hm
          subst hm
          exact k_iret (v := v4_3) X rfl dX11_firstWrong_61 hP hD hS
        · have c27 := kb1 c27
          rw [if_pos c27] at hm
          refine lv_aload_n hx hb dX11_firstWrong_30 rfl (lv_at hl 1 rfl) ?_
          refine va_get (D := G) (ci := 8) (v := .int k_t_reached) (C := RX11) (T := TX11) (N := 22) hx hb hts i_X11 hown hK hP 0 rfl rfl 6 (by decide) l_110 (fun _ h9 => h9) rfl dX11_firstWrong_31 ?_
          refine lv_iload hx hb dX11_firstWrong_34 (lv_at hl 0 rfl) ?_
          refine kcS0 (st1 := [.int (bI (mX11_has k_t_reached (f_t_shown (Int32.toNatClampNeg v4_3))))]) X hA (c_X11_has l G cI cZ cE k_t_reached (f_t_shown (Int32.toNatClampNeg v4_3)) _ rfl) (va_cwS 2 hts gX11_firstWrong_X11_has rfl rfl rfl hd_X11_has ⟨Nat.le_of_ble_eq_true rfl, Nat.le_of_ble_eq_true rfl⟩) hl.1 dX11_firstWrong_36 hP hD hS [] rfl rfl rfl [] rfl (Nat.le_of_ble_eq_true rfl) rfl ⟨Nat.zero_le _, Nat.zero_le _⟩ (fun H locs hP hD hS => ?_)
          refine lv_if_eq (tgt := 60) hx hb dX11_firstWrong_39 (by decide) (fun c39 => ?_) (fun c39 => ?_)
          · have c39 := kb0 c39
            rw [if_neg c39] at hm
            refine lv_iload_n hx hb dX11_firstWrong_60 rfl (lv_at hl 4 rfl) ?_
            have hm := Option.some.inj hm
            subst hm
            exact k_iret (v := v4_3) X rfl dX11_firstWrong_61 hP hD hS
          · have c39 := kb1 c39
            rw [if_pos c39] at hm
            refine lv_iload_n hx hb dX11_firstWrong_42 rfl (lv_at hl 3 rfl) ?_
            refine lv_iload hx hb dX11_firstWrong_43 (lv_at hl 0 rfl) ?_
            refine kcS0 (st1 := [.int (bI (mX11_has v4_2 (f_t_shown (Int32.toNatClampNeg v4_3))))]) X hA (c_X11_has l G cI cZ cE v4_2 (f_t_shown (Int32.toNatClampNeg v4_3)) _ rfl) (va_cwS 2 hts gX11_firstWrong_X11_has rfl rfl rfl hd_X11_has ⟨Nat.le_of_ble_eq_true rfl, Nat.le_of_ble_eq_true rfl⟩) hl.1 dX11_firstWrong_45 hP hD hS [] rfl rfl rfl [] rfl (Nat.le_of_ble_eq_true rfl) rfl ⟨Nat.zero_le _, Nat.zero_le _⟩ (fun H locs hP hD hS => ?_)
            refine lv_if_ne (tgt := 60) hx hb dX11_firstWrong_48 (by decide) (fun c48 => ?_) (fun c48 => ?_)
            · have c48 := kb1 c48
              rw [if_pos c48] at hm
              refine lv_iload_n hx hb dX11_firstWrong_60 rfl (lv_at hl 4 rfl) ?_
              have hm := Option.some.inj hm
              subst hm
              exact k_iret (v := v4_3) X rfl dX11_firstWrong_61 hP hD hS
            · have c48 := kb0 c48
              rw [if_neg c48] at hm
              refine lv_iload_n hx hb dX11_firstWrong_51 rfl (lv_at hl 4 rfl) ?_
              have h62 : ∀ (H : Heap) (locs : List Loc) (ls : Array Slot), va_P G vwCl [(a_t, .inr (8, [.int k_t_knots, .ref a_t_now, .int k_t_readKnots, .ref a_t_text, .int k_t_length, .ref a_t_covers, .int k_t_reached, .ref a_t_order, .ref a_t_way, .ref a_t_tried, .int k_t_acts, .int k_t_next, .ref a_t_row, .ref a_t_lids, .ref a_t_shown, .int k_t_seen, .ref a_t_seenKnot, .ref a_t_seenLid, .ref a_t_seenHad, .long k_t_seed, .ref a_t_isKept, .ref a_t_kept])), (a_t_now, .inl (cI, 100, .inl f_t_now)), (a_t_covers, .inl (cI, 8, .inl f_t_covers)), (a_t_shown, .inl (cI, 8, .inl f_t_shown))] H → va_D A [(a_t, .inr (8, [.int k_t_knots, .ref a_t_now, .int k_t_readKnots, .ref a_t_text, .int k_t_length, .ref a_t_covers, .int k_t_reached, .ref a_t_order, .ref a_t_way, .ref a_t_tried, .int k_t_acts, .int k_t_next, .ref a_t_row, .ref a_t_lids, .ref a_t_shown, .int k_t_seen, .ref a_t_seenKnot, .ref a_t_seenLid, .ref a_t_seenHad, .long k_t_seed, .ref a_t_isKept, .ref a_t_kept])), (a_t_now, .inl (cI, 100, .inl f_t_now)), (a_t_covers, .inl (cI, 8, .inl f_t_covers)), (a_t_shown, .inl (cI, 8, .inl f_t_shown))] → va_S A s.heap H locs → lv_has ls 5 [(0, .ref a_t), (1, .int p1), (2, .int v4_2), (3, .int v4_3), (4, .int (f_t_shown (Int32.toNatClampNeg v4_3)))] → mX11_firstWrong_J62 (mX11_firstWrong_L4 k_t_reached f_t_now f_t_covers f_t_shown p1 n4) k_t_reached f_t_covers f_t_shown v4_2 v4_3 = some R → W p l e { frames := 3, cells := 0, slots := 0, locals := 73 } s m ([.ref a_t, .int p1] : List Value).toArray below meth c H locs 0 0 (kQ below G [(a_t, .inr (8, [.int k_t_knots, .ref a_t_now, .int k_t_readKnots, .ref a_t_text, .int k_t_length, .ref a_t_covers, .int k_t_reached, .ref a_t_order, .ref a_t_way, .ref a_t_tried, .int k_t_acts, .int k_t_next, .ref a_t_row, .ref a_t_lids, .ref a_t_shown, .int k_t_seen, .ref a_t_seenKnot, .ref a_t_seenLid, .ref a_t_seenHad, .long k_t_seed, .ref a_t_isKept, .ref a_t_kept])), (a_t_now, .inl (cI, 100, .inl f_t_now)), (a_t_covers, .inl (cI, 8, .inl f_t_covers)), (a_t_shown, .inl (cI, 8, .inl f_t_shown))] (some (.int R)) A ([.ref a_t, .int p1] : List Value).toArray s) (F0 m 62 ls []) := by
                intro H locs ls hP hD hS hl hm
                rw [mX11_firstWrong_J62] at hm
                refine lv_iload_n hx hb dX11_firstWrong_62 rfl (lv_at hl 3 rfl) ?_
                have h93 : ∀ (H : Heap) (locs : List Loc) (ls : Array Slot), va_P G vwCl [(a_t, .inr (8, [.int k_t_knots, .ref a_t_now, .int k_t_readKnots, .ref a_t_text, .int k_t_length, .ref a_t_covers, .int k_t_reached, .ref a_t_order, .ref a_t_way, .ref a_t_tried, .int k_t_acts, .int k_t_next, .ref a_t_row, .ref a_t_lids, .ref a_t_shown, .int k_t_seen, .ref a_t_seenKnot, .ref a_t_seenLid, .ref a_t_seenHad, .long k_t_seed, .ref a_t_isKept, .ref a_t_kept])), (a_t_now, .inl (cI, 100, .inl f_t_now)), (a_t_covers, .inl (cI, 8, .inl f_t_covers)), (a_t_shown, .inl (cI, 8, .inl f_t_shown))] H → va_D A [(a_t, .inr (8, [.int k_t_knots, .ref a_t_now, .int k_t_readKnots, .ref a_t_text, .int k_t_length, .ref a_t_covers, .int k_t_reached, .ref a_t_order, .ref a_t_way, .ref a_t_tried, .int k_t_acts, .int k_t_next, .ref a_t_row, .ref a_t_lids, .ref a_t_shown, .int k_t_seen, .ref a_t_seenKnot, .ref a_t_seenLid, .ref a_t_seenHad, .long k_t_seed, .ref a_t_isKept, .ref a_t_kept])), (a_t_now, .inl (cI, 100, .inl f_t_now)), (a_t_covers, .inl (cI, 8, .inl f_t_covers)), (a_t_shown, .inl (cI, 8, .inl f_t_shown))] → va_S A s.heap H locs → lv_has ls 5 [(0, .ref a_t), (1, .int p1), (2, .int v4_2), (3, .int v4_3), (4, .int (f_t_shown (Int32.toNatClampNeg v4_3)))] → mX11_firstWrong_J93 (mX11_firstWrong_L4 k_t_reached f_t_now f_t_covers f_t_shown p1 n4) f_t_shown v4_2 v4_3 = some R → W p l e { frames := 3, cells := 0, slots := 0, locals := 73 } s m ([.ref a_t, .int p1] : List Value).toArray below meth c H locs 0 0 (kQ below G [(a_t, .inr (8, [.int k_t_knots, .ref a_t_now, .int k_t_readKnots, .ref a_t_text, .int k_t_length, .ref a_t_covers, .int k_t_reached, .ref a_t_order, .ref a_t_way, .ref a_t_tried, .int k_t_acts, .int k_t_next, .ref a_t_row, .ref a_t_lids, .ref a_t_shown, .int k_t_seen, .ref a_t_seenKnot, .ref a_t_seenLid, .ref a_t_seenHad, .long k_t_seed, .ref a_t_isKept, .ref a_t_kept])), (a_t_now, .inl (cI, 100, .inl f_t_now)), (a_t_covers, .inl (cI, 8, .inl f_t_covers)), (a_t_shown, .inl (cI, 8, .inl f_t_shown))] (some (.int R)) A ([.ref a_t, .int p1] : List Value).toArray s) (F0 m 93 ls []) := by
                  intro H locs ls hP hD hS hl hm
                  rw [mX11_firstWrong_J93] at hm
                  refine lv_iload_n hx hb dX11_firstWrong_93 rfl (lv_at hl 2 rfl) ?_
                  refine lv_iconst (v := 1) hx hb dX11_firstWrong_94 (by decide) ?_
                  refine lv_iload hx hb dX11_firstWrong_95 (lv_at hl 4 rfl) ?_
                  refine lv_ishl hx hb dX11_firstWrong_97 ?_
                  refine lv_ior hx hb dX11_firstWrong_98 ?_
                  refine lv_istore_n (lv' := [(2, .int (v4_2 ||| (1 <<< ((f_t_shown (Int32.toNatClampNeg v4_3)) &&& 31)))), (0, .ref a_t), (1, .int p1), (3, .int v4_3), (4, .int (f_t_shown (Int32.toNatClampNeg v4_3)))]) hx hb dX11_firstWrong_99 rfl hl (by decide) rfl (fun ls hl => ?_)
                  refine lv_iinc (v := v4_3 + 1) (lv' := [(3, .int (v4_3 + 1)), (2, .int (v4_2 ||| (1 <<< ((f_t_shown (Int32.toNatClampNeg v4_3)) &&& 31)))), (0, .ref a_t), (1, .int p1), (4, .int (f_t_shown (Int32.toNatClampNeg v4_3)))]) hx hb dX11_firstWrong_100 hl (k := 3) rfl rfl (by decide) rfl (fun ls hl => ?_)
                  refine lv_goto (tgt := 4) hx hb dX11_firstWrong_103 (by decide) ?_
                  exact ih4 (v4_2 ||| (1 <<< ((f_t_shown (Int32.toNatClampNeg v4_3)) &&& 31))) (v4_3 + 1) _ _ _ hP hD hS (lv_sub hl [2, 3, 1, 0] rfl) hm
                refine lv_if_le (tgt := 93) hx hb dX11_firstWrong_63 (by decide) (fun c63 => ?_) (fun c63 => ?_)
                · rw [if_pos c63] at hm
                  exact h93 _ _ _ hP hD hS (lv_sub hl [0, 1, 2, 3, 4] rfl) hm
                · rw [if_neg c63] at hm
                  refine lv_aload_n hx hb dX11_firstWrong_66 rfl (lv_at hl 0 rfl) ?_
                  refine va_get (D := G) (ci := 8) (v := .ref a_t_covers) (C := RX11) (T := TX11) (N := 22) hx hb hts i_X11 hown hK hP 0 rfl rfl 5 (by decide) l_20 (fun _ h9 => h9) rfl dX11_firstWrong_67 ?_
                  refine lv_aload_n hx hb dX11_firstWrong_70 rfl (lv_at hl 0 rfl) ?_
                  refine va_get (D := G) (ci := 8) (v := .ref a_t_shown) (C := RX11) (T := TX11) (N := 22) hx hb hts i_X11 hown hK hP 0 rfl rfl 14 (by decide) l_38 (fun _ h9 => h9) rfl dX11_firstWrong_71 ?_
                  refine lv_iload_n hx hb dX11_firstWrong_74 rfl (lv_at hl 3 rfl) ?_
                  refine lv_iconst (v := 1) hx hb dX11_firstWrong_75 (by decide) ?_
                  refine lv_isub hx hb dX11_firstWrong_76 ?_
                  obtain ⟨g77, hm⟩ := gd_some hm
                  refine va_iald hx hb hK hP 3 0 rfl rfl (kin_ok g77) dX11_firstWrong_77 ?_
                  obtain ⟨g78, hm⟩ := gd_some hm
                  refine va_iald hx hb hK hP 2 0 rfl rfl (kin_ok g78) dX11_firstWrong_78 ?_
                  refine lv_aload_n hx hb dX11_firstWrong_79 rfl (lv_at hl 0 rfl) ?_
                  refine lv_iload hx hb dX11_firstWrong_80 (lv_at hl 4 rfl) ?_
                  obtain ⟨r82, hc82, hm⟩ := kbind hm
                  refine kcV0 (st1 := [.int r82, .int (f_t_covers (Int32.toNatClampNeg (f_t_shown (Int32.toNatClampNeg (v4_3 - 1)))))]) X hA (c_X11_lidOf l G cI cZ cE a_t a_t_now a_t_text a_t_covers a_t_order a_t_way a_t_tried a_t_row a_t_lids a_t_shown a_t_seenKnot a_t_seenLid a_t_seenHad a_t_isKept a_t_kept k_t_knots k_t_readKnots k_t_length k_t_reached k_t_acts k_t_next k_t_seen k_t_seed f_t_covers (f_t_shown (Int32.toNatClampNeg v4_3)) r82 hc82) (cwV 1 hts gX11_firstWrong_X11_lidOf rfl rfl rfl hd_X11_lidOf ⟨Nat.le_of_ble_eq_true rfl, Nat.le_of_ble_eq_true rfl⟩) 0 8 rfl rfl hl.1 dX11_firstWrong_82 hP hD hS [0, 2] rfl rfl rfl [.int (f_t_covers (Int32.toNatClampNeg (f_t_shown (Int32.toNatClampNeg (v4_3 - 1)))))] rfl (Nat.le_of_ble_eq_true rfl) rfl ⟨Nat.zero_le _, Nat.zero_le _⟩ (fun H locs hP hD hS => ?_)
                  refine kcS0 (st1 := [.int (bI (mX11_has (f_t_covers (Int32.toNatClampNeg (f_t_shown (Int32.toNatClampNeg (v4_3 - 1))))) r82))]) X hA (c_X11_has l G cI cZ cE (f_t_covers (Int32.toNatClampNeg (f_t_shown (Int32.toNatClampNeg (v4_3 - 1))))) r82 _ rfl) (va_cwS 2 hts gX11_firstWrong_X11_has rfl rfl rfl hd_X11_has ⟨Nat.le_of_ble_eq_true rfl, Nat.le_of_ble_eq_true rfl⟩) hl.1 dX11_firstWrong_85 hP hD hS [] rfl rfl rfl [] rfl (Nat.le_of_ble_eq_true rfl) rfl ⟨Nat.zero_le _, Nat.zero_le _⟩ (fun H locs hP hD hS => ?_)
                  refine lv_if_ne (tgt := 93) hx hb dX11_firstWrong_88 (by decide) (fun c88 => ?_) (fun c88 => ?_)
                  · have c88 := kb1 c88
                    rw [if_pos c88] at hm
                    exact h93 _ _ _ hP hD hS (lv_sub hl [0, 1, 2, 3, 4] rfl) hm
                  · have c88 := kb0 c88
                    rw [if_neg c88] at hm
                    refine lv_iload_n hx hb dX11_firstWrong_91 rfl (lv_at hl 3 rfl) ?_
                    have hm := Option.some.inj hm
                    subst hm
                    exact k_iret (v := v4_3) X rfl dX11_firstWrong_92 hP hD hS
              refine lv_if_ne (tgt := 62) hx hb dX11_firstWrong_52 (by decide) (fun c52 => ?_) (fun c52 => ?_)
              · rw [if_neg c52] at hm
                exact h62 _ _ _ hP hD hS (lv_sub hl [1, 2, 3, 4, 0] rfl) hm
              · rw [if_pos c52] at hm
                refine lv_iload hx hb dX11_firstWrong_55 (lv_at hl 0 rfl) ?_
                refine lv_if_eq (tgt := 62) hx hb dX11_firstWrong_57 (by decide) (fun c57 => ?_) (fun c57 => ?_)
                · rw [if_pos c57] at hm
                  exact h62 _ _ _ hP hD hS (lv_sub hl [1, 2, 3, 4, 0] rfl) hm
                · rw [if_neg c57] at hm
                  refine lv_iload_n hx hb dX11_firstWrong_60 rfl (lv_at hl 4 rfl) ?_
                  have hm := Option.some.inj hm
                  subst hm
                  exact k_iret (v := v4_3) X rfl dX11_firstWrong_61 hP hD hS
  exact h4 kFU 0 0 _ _ _ hP hD hS (lv_sub hl [2, 3, 1, 0] rfl) hm
theorem hd_X11_firstWrong : yX11_firstWrong.cls = RX11 ∧ yX11_firstWrong.cls ≠ "java/lang/invoke/MethodHandle" ∧ yX11_firstWrong.cls ≠ "java/lang/invoke/VarHandle" ∧ (parseMethodDescriptor yX11_firstWrong.desc).map (fun d => d.parameters.length) = some 1 := by decide +kernel
/-! CoverOrderModel nextRow -/
set_option maxRecDepth 100000 in
set_option maxHeartbeats 4000000 in
theorem c_X11_nextRow (l : Launch) (G : va_G) (cI cZ cE : ClassId) (a_t a_t_now a_t_text a_t_covers a_t_order a_t_way a_t_tried a_t_row a_t_lids a_t_shown a_t_seenKnot a_t_seenLid a_t_seenHad a_t_isKept a_t_kept : Nat) (k_t_knots : Int32) (k_t_readKnots : Int32) (k_t_length : Int32) (k_t_reached : Int32) (k_t_acts : Int32) (k_t_next : Int32) (k_t_seen : Int32) (k_t_seed : Int64) (f_t_shown : Nat → Int32) (p1 : Int32) (R : Bool × (Nat → Int32)) (hm : mX11_nextRow f_t_shown p1 = some R) : kM l yX11_nextRow wsX11_nextRow { frames := 0, cells := 0, slots := 0, locals := 0 } G cI cZ cE [.ref a_t, .int p1] [(a_t, .inr (8, [.int k_t_knots, .ref a_t_now, .int k_t_readKnots, .ref a_t_text, .int k_t_length, .ref a_t_covers, .int k_t_reached, .ref a_t_order, .ref a_t_way, .ref a_t_tried, .int k_t_acts, .int k_t_next, .ref a_t_row, .ref a_t_lids, .ref a_t_shown, .int k_t_seen, .ref a_t_seenKnot, .ref a_t_seenLid, .ref a_t_seenHad, .long k_t_seed, .ref a_t_isKept, .ref a_t_kept])), (a_t_shown, .inl (cI, 8, .inl f_t_shown))] [(a_t, .inr (8, [.int k_t_knots, .ref a_t_now, .int k_t_readKnots, .ref a_t_text, .int k_t_length, .ref a_t_covers, .int k_t_reached, .ref a_t_order, .ref a_t_way, .ref a_t_tried, .int k_t_acts, .int k_t_next, .ref a_t_row, .ref a_t_lids, .ref a_t_shown, .int k_t_seen, .ref a_t_seenKnot, .ref a_t_seenLid, .ref a_t_seenHad, .long k_t_seed, .ref a_t_isKept, .ref a_t_kept])), (a_t_shown, .inl (cI, 8, .inl R.2))] (some (.int (bI R.1))) := by
  refine kM_of cX11_nextRow 7 (some .boolean) RX11 (by decide) rfl rfl (Nat.le_of_ble_eq_true rfl) ?_
  intro p e s m below meth c A ls X hA hP hD hS hl
  have hx := X.1.1
  have hb := X.1.2.1
  have hts := X.1.2.2.2.2
  have hown := X.1.2.2.2.1
  have hK := X.2.2.2.1
  have l_38 : (.fieldLink RX11 38 "CoverOrderModel" "shown" "[I" : Cond).before _ s = true := hts _ (List.mem_of_getElem? (i := 1) (by decide +kernel))
  have i_X11 : ∀ w ∈ u_ws RX11 TX11 22, w ∈ wsX11_nextRow := k_in _ [2, 3, 4, 5, 6, 7, 8, 9, 10, 11, 12, 13, 14, 15, 16, 17, 18, 19, 20, 21, 22, 23] (by decide +kernel)
  have hl : lv_has ls 7 [(0, .ref a_t), (1, .int p1)] := hl
  rw [mX11_nextRow] at hm
  refine lv_iload_n hx hb dX11_nextRow_0 rfl (lv_at hl 1 rfl) ?_
  refine lv_iconst (v := 2) hx hb dX11_nextRow_1 (by decide) ?_
  refine lv_isub hx hb dX11_nextRow_2 ?_
  refine lv_istore_n (lv' := [(2, .int (p1 - 2)), (0, .ref a_t), (1, .int p1)]) hx hb dX11_nextRow_3 rfl hl (by decide) rfl (fun ls hl => ?_)
  have h4 : ∀ (n4 : Nat), ∀ (v4_2 : Int32) (H : Heap) (locs : List Loc) (ls : Array Slot), va_P G vwCl [(a_t, .inr (8, [.int k_t_knots, .ref a_t_now, .int k_t_readKnots, .ref a_t_text, .int k_t_length, .ref a_t_covers, .int k_t_reached, .ref a_t_order, .ref a_t_way, .ref a_t_tried, .int k_t_acts, .int k_t_next, .ref a_t_row, .ref a_t_lids, .ref a_t_shown, .int k_t_seen, .ref a_t_seenKnot, .ref a_t_seenLid, .ref a_t_seenHad, .long k_t_seed, .ref a_t_isKept, .ref a_t_kept])), (a_t_shown, .inl (cI, 8, .inl f_t_shown))] H → va_D A [(a_t, .inr (8, [.int k_t_knots, .ref a_t_now, .int k_t_readKnots, .ref a_t_text, .int k_t_length, .ref a_t_covers, .int k_t_reached, .ref a_t_order, .ref a_t_way, .ref a_t_tried, .int k_t_acts, .int k_t_next, .ref a_t_row, .ref a_t_lids, .ref a_t_shown, .int k_t_seen, .ref a_t_seenKnot, .ref a_t_seenLid, .ref a_t_seenHad, .long k_t_seed, .ref a_t_isKept, .ref a_t_kept])), (a_t_shown, .inl (cI, 8, .inl f_t_shown))] → va_S A s.heap H locs → lv_has ls 7 [(0, .ref a_t), (1, .int p1), (2, .int v4_2)] → mX11_nextRow_L4 f_t_shown p1 n4 v4_2 = some R → W p l e { frames := 0, cells := 0, slots := 0, locals := 0 } s m ([.ref a_t, .int p1] : List Value).toArray below meth c H locs 0 0 (kQ below G [(a_t, .inr (8, [.int k_t_knots, .ref a_t_now, .int k_t_readKnots, .ref a_t_text, .int k_t_length, .ref a_t_covers, .int k_t_reached, .ref a_t_order, .ref a_t_way, .ref a_t_tried, .int k_t_acts, .int k_t_next, .ref a_t_row, .ref a_t_lids, .ref a_t_shown, .int k_t_seen, .ref a_t_seenKnot, .ref a_t_seenLid, .ref a_t_seenHad, .long k_t_seed, .ref a_t_isKept, .ref a_t_kept])), (a_t_shown, .inl (cI, 8, .inl R.2))] (some (.int (bI R.1))) A ([.ref a_t, .int p1] : List Value).toArray s) (F0 m 4 ls []) := by
    intro n4
    induction n4 with
    | zero => intro v4_2 H locs ls hP hD hS hl hm; rw [mX11_nextRow_L4] at hm; cases hm
    | succ n4 ih4 =>
      intro v4_2 H locs ls hP hD hS hl hm
      rw [mX11_nextRow_L4] at hm
      refine lv_iload_n hx hb dX11_nextRow_4 rfl (lv_at hl 2 rfl) ?_
      have h31 : ∀ (H : Heap) (locs : List Loc) (ls : Array Slot), va_P G vwCl [(a_t, .inr (8, [.int k_t_knots, .ref a_t_now, .int k_t_readKnots, .ref a_t_text, .int k_t_length, .ref a_t_covers, .int k_t_reached, .ref a_t_order, .ref a_t_way, .ref a_t_tried, .int k_t_acts, .int k_t_next, .ref a_t_row, .ref a_t_lids, .ref a_t_shown, .int k_t_seen, .ref a_t_seenKnot, .ref a_t_seenLid, .ref a_t_seenHad, .long k_t_seed, .ref a_t_isKept, .ref a_t_kept])), (a_t_shown, .inl (cI, 8, .inl f_t_shown))] H → va_D A [(a_t, .inr (8, [.int k_t_knots, .ref a_t_now, .int k_t_readKnots, .ref a_t_text, .int k_t_length, .ref a_t_covers, .int k_t_reached, .ref a_t_order, .ref a_t_way, .ref a_t_tried, .int k_t_acts, .int k_t_next, .ref a_t_row, .ref a_t_lids, .ref a_t_shown, .int k_t_seen, .ref a_t_seenKnot, .ref a_t_seenLid, .ref a_t_seenHad, .long k_t_seed, .ref a_t_isKept, .ref a_t_kept])), (a_t_shown, .inl (cI, 8, .inl f_t_shown))] → va_S A s.heap H locs → lv_has ls 7 [(0, .ref a_t), (1, .int p1), (2, .int v4_2)] → mX11_nextRow_J31 f_t_shown p1 v4_2 = some R → W p l e { frames := 0, cells := 0, slots := 0, locals := 0 } s m ([.ref a_t, .int p1] : List Value).toArray below meth c H locs 0 0 (kQ below G [(a_t, .inr (8, [.int k_t_knots, .ref a_t_now, .int k_t_readKnots, .ref a_t_text, .int k_t_length, .ref a_t_covers, .int k_t_reached, .ref a_t_order, .ref a_t_way, .ref a_t_tried, .int k_t_acts, .int k_t_next, .ref a_t_row, .ref a_t_lids, .ref a_t_shown, .int k_t_seen, .ref a_t_seenKnot, .ref a_t_seenLid, .ref a_t_seenHad, .long k_t_seed, .ref a_t_isKept, .ref a_t_kept])), (a_t_shown, .inl (cI, 8, .inl R.2))] (some (.int (bI R.1))) A ([.ref a_t, .int p1] : List Value).toArray s) (F0 m 31 ls []) := by
        intro H locs ls hP hD hS hl hm
        rw [mX11_nextRow_J31] at hm
        refine lv_iload_n hx hb dX11_nextRow_31 rfl (lv_at hl 2 rfl) ?_
        refine lv_iconst (v := 1) hx hb dX11_nextRow_32 (by decide) ?_
        refine lv_icmp_ge (tgt := 38) hx hb dX11_nextRow_33 (by decide) (fun c33 => ?_) (fun c33 => ?_)
        · rw [if_pos c33] at hm
          refine lv_iload_n hx hb dX11_nextRow_38 rfl (lv_at hl 1 rfl) ?_
          refine lv_iconst (v := 1) hx hb dX11_nextRow_39 (by decide) ?_
          refine lv_isub hx hb dX11_nextRow_40 ?_
          refine lv_istore_n (lv' := [(3, .int (p1 - 1)), (0, .ref a_t), (1, .int p1), (2, .int v4_2)]) hx hb dX11_nextRow_41 rfl hl (by decide) rfl (fun ls hl => ?_)
          have h42 : ∀ (n42 : Nat), ∀ (v42_3 : Int32) (H : Heap) (locs : List Loc) (ls : Array Slot), va_P G vwCl [(a_t, .inr (8, [.int k_t_knots, .ref a_t_now, .int k_t_readKnots, .ref a_t_text, .int k_t_length, .ref a_t_covers, .int k_t_reached, .ref a_t_order, .ref a_t_way, .ref a_t_tried, .int k_t_acts, .int k_t_next, .ref a_t_row, .ref a_t_lids, .ref a_t_shown, .int k_t_seen, .ref a_t_seenKnot, .ref a_t_seenLid, .ref a_t_seenHad, .long k_t_seed, .ref a_t_isKept, .ref a_t_kept])), (a_t_shown, .inl (cI, 8, .inl f_t_shown))] H → va_D A [(a_t, .inr (8, [.int k_t_knots, .ref a_t_now, .int k_t_readKnots, .ref a_t_text, .int k_t_length, .ref a_t_covers, .int k_t_reached, .ref a_t_order, .ref a_t_way, .ref a_t_tried, .int k_t_acts, .int k_t_next, .ref a_t_row, .ref a_t_lids, .ref a_t_shown, .int k_t_seen, .ref a_t_seenKnot, .ref a_t_seenLid, .ref a_t_seenHad, .long k_t_seed, .ref a_t_isKept, .ref a_t_kept])), (a_t_shown, .inl (cI, 8, .inl f_t_shown))] → va_S A s.heap H locs → lv_has ls 7 [(0, .ref a_t), (1, .int p1), (2, .int v4_2), (3, .int v42_3)] → mX11_nextRow_L42 f_t_shown p1 v4_2 n42 v42_3 = some R → W p l e { frames := 0, cells := 0, slots := 0, locals := 0 } s m ([.ref a_t, .int p1] : List Value).toArray below meth c H locs 0 0 (kQ below G [(a_t, .inr (8, [.int k_t_knots, .ref a_t_now, .int k_t_readKnots, .ref a_t_text, .int k_t_length, .ref a_t_covers, .int k_t_reached, .ref a_t_order, .ref a_t_way, .ref a_t_tried, .int k_t_acts, .int k_t_next, .ref a_t_row, .ref a_t_lids, .ref a_t_shown, .int k_t_seen, .ref a_t_seenKnot, .ref a_t_seenLid, .ref a_t_seenHad, .long k_t_seed, .ref a_t_isKept, .ref a_t_kept])), (a_t_shown, .inl (cI, 8, .inl R.2))] (some (.int (bI R.1))) A ([.ref a_t, .int p1] : List Value).toArray s) (F0 m 42 ls []) := by
            intro n42
            induction n42 with
            | zero => intro v42_3 H locs ls hP hD hS hl hm; rw [mX11_nextRow_L42] at hm; cases hm
            | succ n42 ih42 =>
              intro v42_3 H locs ls hP hD hS hl hm
              rw [mX11_nextRow_L42] at hm
              refine lv_aload_n hx hb dX11_nextRow_42 rfl (lv_at hl 0 rfl) ?_
              refine va_get (D := G) (ci := 8) (v := .ref a_t_shown) (C := RX11) (T := TX11) (N := 22) hx hb hts i_X11 hown hK hP 0 rfl rfl 14 (by decide) l_38 (fun _ h9 => h9) rfl dX11_nextRow_43 ?_
              refine lv_iload_n hx hb dX11_nextRow_46 rfl (lv_at hl 3 rfl) ?_
              obtain ⟨g47, hm⟩ := gd_some hm
              refine va_iald hx hb hK hP 1 0 rfl rfl (kin_ok g47) dX11_nextRow_47 ?_
              refine lv_aload_n hx hb dX11_nextRow_48 rfl (lv_at hl 0 rfl) ?_
              refine va_get (D := G) (ci := 8) (v := .ref a_t_shown) (C := RX11) (T := TX11) (N := 22) hx hb hts i_X11 hown hK hP 0 rfl rfl 14 (by decide) l_38 (fun _ h9 => h9) rfl dX11_nextRow_49 ?_
              refine lv_iload_n hx hb dX11_nextRow_52 rfl (lv_at hl 2 rfl) ?_
              obtain ⟨g53, hm⟩ := gd_some hm
              refine va_iald hx hb hK hP 1 0 rfl rfl (kin_ok g53) dX11_nextRow_53 ?_
              have h63 : ∀ (H : Heap) (locs : List Loc) (ls : Array Slot), va_P G vwCl [(a_t, .inr (8, [.int k_t_knots, .ref a_t_now, .int k_t_readKnots, .ref a_t_text, .int k_t_length, .ref a_t_covers, .int k_t_reached, .ref a_t_order, .ref a_t_way, .ref a_t_tried, .int k_t_acts, .int k_t_next, .ref a_t_row, .ref a_t_lids, .ref a_t_shown, .int k_t_seen, .ref a_t_seenKnot, .ref a_t_seenLid, .ref a_t_seenHad, .long k_t_seed, .ref a_t_isKept, .ref a_t_kept])), (a_t_shown, .inl (cI, 8, .inl f_t_shown))] H → va_D A [(a_t, .inr (8, [.int k_t_knots, .ref a_t_now, .int k_t_readKnots, .ref a_t_text, .int k_t_length, .ref a_t_covers, .int k_t_reached, .ref a_t_order, .ref a_t_way, .ref a_t_tried, .int k_t_acts, .int k_t_next, .ref a_t_row, .ref a_t_lids, .ref a_t_shown, .int k_t_seen, .ref a_t_seenKnot, .ref a_t_seenLid, .ref a_t_seenHad, .long k_t_seed, .ref a_t_isKept, .ref a_t_kept])), (a_t_shown, .inl (cI, 8, .inl f_t_shown))] → va_S A s.heap H locs → lv_has ls 7 [(0, .ref a_t), (1, .int p1), (2, .int v4_2), (3, .int v42_3)] → mX11_nextRow_J63 f_t_shown p1 v4_2 v42_3 = some R → W p l e { frames := 0, cells := 0, slots := 0, locals := 0 } s m ([.ref a_t, .int p1] : List Value).toArray below meth c H locs 0 0 (kQ below G [(a_t, .inr (8, [.int k_t_knots, .ref a_t_now, .int k_t_readKnots, .ref a_t_text, .int k_t_length, .ref a_t_covers, .int k_t_reached, .ref a_t_order, .ref a_t_way, .ref a_t_tried, .int k_t_acts, .int k_t_next, .ref a_t_row, .ref a_t_lids, .ref a_t_shown, .int k_t_seen, .ref a_t_seenKnot, .ref a_t_seenLid, .ref a_t_seenHad, .long k_t_seed, .ref a_t_isKept, .ref a_t_kept])), (a_t_shown, .inl (cI, 8, .inl R.2))] (some (.int (bI R.1))) A ([.ref a_t, .int p1] : List Value).toArray s) (F0 m 63 ls []) := by
                intro H locs ls hP hD hS hl hm
                rw [mX11_nextRow_J63] at hm
                refine lv_aload_n hx hb dX11_nextRow_63 rfl (lv_at hl 0 rfl) ?_
                refine va_get (D := G) (ci := 8) (v := .ref a_t_shown) (C := RX11) (T := TX11) (N := 22) hx hb hts i_X11 hown hK hP 0 rfl rfl 14 (by decide) l_38 (fun _ h9 => h9) rfl dX11_nextRow_64 ?_
                refine lv_iload_n hx hb dX11_nextRow_67 rfl (lv_at hl 2 rfl) ?_
                obtain ⟨g68, hm⟩ := gd_some hm
                refine va_iald hx hb hK hP 1 0 rfl rfl (kin_ok g68) dX11_nextRow_68 ?_
                refine lv_istore (lv' := [(4, .int (f_t_shown (Int32.toNatClampNeg v4_2))), (0, .ref a_t), (1, .int p1), (2, .int v4_2), (3, .int v42_3)]) hx hb dX11_nextRow_69 hl (by decide) rfl (fun ls hl => ?_)
                refine lv_aload_n hx hb dX11_nextRow_71 rfl (lv_at hl 1 rfl) ?_
                refine va_get (D := G) (ci := 8) (v := .ref a_t_shown) (C := RX11) (T := TX11) (N := 22) hx hb hts i_X11 hown hK hP 0 rfl rfl 14 (by decide) l_38 (fun _ h9 => h9) rfl dX11_nextRow_72 ?_
                refine lv_iload_n hx hb dX11_nextRow_75 rfl (lv_at hl 3 rfl) ?_
                refine lv_aload_n hx hb dX11_nextRow_76 rfl (lv_at hl 1 rfl) ?_
                refine va_get (D := G) (ci := 8) (v := .ref a_t_shown) (C := RX11) (T := TX11) (N := 22) hx hb hts i_X11 hown hK hP 0 rfl rfl 14 (by decide) l_38 (fun _ h9 => h9) rfl dX11_nextRow_77 ?_
                refine lv_iload_n hx hb dX11_nextRow_80 rfl (lv_at hl 4 rfl) ?_
                obtain ⟨g81, hm⟩ := gd_some hm
                refine va_iald hx hb hK hP 1 0 rfl rfl (kin_ok g81) dX11_nextRow_81 ?_
                obtain ⟨g82, hm⟩ := gd_some hm
                refine va_iast hx hb hK hP hD hS 1 0 rfl rfl (kin_ok g82) dX11_nextRow_82 (fun H locs hP hD hS => ?_)
                have hP : va_P G vwCl [(a_t, .inr (8, [.int k_t_knots, .ref a_t_now, .int k_t_readKnots, .ref a_t_text, .int k_t_length, .ref a_t_covers, .int k_t_reached, .ref a_t_order, .ref a_t_way, .ref a_t_tried, .int k_t_acts, .int k_t_next, .ref a_t_row, .ref a_t_lids, .ref a_t_shown, .int k_t_seen, .ref a_t_seenKnot, .ref a_t_seenLid, .ref a_t_seenHad, .long k_t_seed, .ref a_t_isKept, .ref a_t_kept])), (a_t_shown, .inl (cI, 8, .inl (upd f_t_shown (Int32.toNatClampNeg v4_2) (f_t_shown (Int32.toNatClampNeg v42_3)))))] H := hP
                have hD : va_D A [(a_t, .inr (8, [.int k_t_knots, .ref a_t_now, .int k_t_readKnots, .ref a_t_text, .int k_t_length, .ref a_t_covers, .int k_t_reached, .ref a_t_order, .ref a_t_way, .ref a_t_tried, .int k_t_acts, .int k_t_next, .ref a_t_row, .ref a_t_lids, .ref a_t_shown, .int k_t_seen, .ref a_t_seenKnot, .ref a_t_seenLid, .ref a_t_seenHad, .long k_t_seed, .ref a_t_isKept, .ref a_t_kept])), (a_t_shown, .inl (cI, 8, .inl (upd f_t_shown (Int32.toNatClampNeg v4_2) (f_t_shown (Int32.toNatClampNeg v42_3)))))] := hD
                refine lv_aload_n hx hb dX11_nextRow_83 rfl (lv_at hl 1 rfl) ?_
                refine va_get (D := G) (ci := 8) (v := .ref a_t_shown) (C := RX11) (T := TX11) (N := 22) hx hb hts i_X11 hown hK hP 0 rfl rfl 14 (by decide) l_38 (fun _ h9 => h9) rfl dX11_nextRow_84 ?_
                refine lv_iload_n hx hb dX11_nextRow_87 rfl (lv_at hl 4 rfl) ?_
                refine lv_iload hx hb dX11_nextRow_88 (lv_at hl 0 rfl) ?_
                obtain ⟨g90, hm⟩ := gd_some hm
                refine va_iast hx hb hK hP hD hS 1 0 rfl rfl (kin_ok g90) dX11_nextRow_90 (fun H locs hP hD hS => ?_)
                have hP : va_P G vwCl [(a_t, .inr (8, [.int k_t_knots, .ref a_t_now, .int k_t_readKnots, .ref a_t_text, .int k_t_length, .ref a_t_covers, .int k_t_reached, .ref a_t_order, .ref a_t_way, .ref a_t_tried, .int k_t_acts, .int k_t_next, .ref a_t_row, .ref a_t_lids, .ref a_t_shown, .int k_t_seen, .ref a_t_seenKnot, .ref a_t_seenLid, .ref a_t_seenHad, .long k_t_seed, .ref a_t_isKept, .ref a_t_kept])), (a_t_shown, .inl (cI, 8, .inl (upd (upd f_t_shown (Int32.toNatClampNeg v4_2) (f_t_shown (Int32.toNatClampNeg v42_3))) (Int32.toNatClampNeg v42_3) (f_t_shown (Int32.toNatClampNeg v4_2)))))] H := hP
                have hD : va_D A [(a_t, .inr (8, [.int k_t_knots, .ref a_t_now, .int k_t_readKnots, .ref a_t_text, .int k_t_length, .ref a_t_covers, .int k_t_reached, .ref a_t_order, .ref a_t_way, .ref a_t_tried, .int k_t_acts, .int k_t_next, .ref a_t_row, .ref a_t_lids, .ref a_t_shown, .int k_t_seen, .ref a_t_seenKnot, .ref a_t_seenLid, .ref a_t_seenHad, .long k_t_seed, .ref a_t_isKept, .ref a_t_kept])), (a_t_shown, .inl (cI, 8, .inl (upd (upd f_t_shown (Int32.toNatClampNeg v4_2) (f_t_shown (Int32.toNatClampNeg v42_3))) (Int32.toNatClampNeg v42_3) (f_t_shown (Int32.toNatClampNeg v4_2)))))] := hD
                refine lv_iload_n hx hb dX11_nextRow_91 rfl (lv_at hl 3 rfl) ?_
                refine lv_iconst (v := 1) hx hb dX11_nextRow_92 (by decide) ?_
                refine lv_iadd hx hb dX11_nextRow_93 ?_
                refine lv_istore (lv' := [(5, .int (v4_2 + 1)), (4, .int (f_t_shown (Int32.toNatClampNeg v4_2))), (0, .ref a_t), (1, .int p1), (2, .int v4_2), (3, .int v42_3)]) hx hb dX11_nextRow_94 hl (by decide) rfl (fun ls hl => ?_)
                refine lv_iload_n hx hb dX11_nextRow_96 rfl (lv_at hl 3 rfl) ?_
                refine lv_iconst (v := 1) hx hb dX11_nextRow_97 (by decide) ?_
                refine lv_isub hx hb dX11_nextRow_98 ?_
                refine lv_istore (lv' := [(6, .int (p1 - 1)), (5, .int (v4_2 + 1)), (4, .int (f_t_shown (Int32.toNatClampNeg v4_2))), (0, .ref a_t), (1, .int p1), (2, .int v4_2), (3, .int v42_3)]) hx hb dX11_nextRow_99 hl (by decide) rfl (fun ls hl => ?_)
                have h101 : ∀ (n101 : Nat), ∀ (v101_5 : Int32) (v101_6 : Int32) (w101_f_t_shown : Nat → Int32) (H : Heap) (locs : List Loc) (ls : Array Slot), va_P G vwCl [(a_t, .inr (8, [.int k_t_knots, .ref a_t_now, .int k_t_readKnots, .ref a_t_text, .int k_t_length, .ref a_t_covers, .int k_t_reached, .ref a_t_order, .ref a_t_way, .ref a_t_tried, .int k_t_acts, .int k_t_next, .ref a_t_row, .ref a_t_lids, .ref a_t_shown, .int k_t_seen, .ref a_t_seenKnot, .ref a_t_seenLid, .ref a_t_seenHad, .long k_t_seed, .ref a_t_isKept, .ref a_t_kept])), (a_t_shown, .inl (cI, 8, .inl w101_f_t_shown))] H → va_D A [(a_t, .inr (8, [.int k_t_knots, .ref a_t_now, .int k_t_readKnots, .ref a_t_text, .int k_t_length, .ref a_t_covers, .int k_t_reached, .ref a_t_order, .ref a_t_way, .ref a_t_tried, .int k_t_acts, .int k_t_next, .ref a_t_row, .ref a_t_lids, .ref a_t_shown, .int k_t_seen, .ref a_t_seenKnot, .ref a_t_seenLid, .ref a_t_seenHad, .long k_t_seed, .ref a_t_isKept, .ref a_t_kept])), (a_t_shown, .inl (cI, 8, .inl w101_f_t_shown))] → va_S A s.heap H locs → lv_has ls 7 [(0, .ref a_t), (5, .int v101_5), (6, .int v101_6)] → mX11_nextRow_L101 n101 v101_5 v101_6 w101_f_t_shown = some R → W p l e { frames := 0, cells := 0, slots := 0, locals := 0 } s m ([.ref a_t, .int p1] : List Value).toArray below meth c H locs 0 0 (kQ below G [(a_t, .inr (8, [.int k_t_knots, .ref a_t_now, .int k_t_readKnots, .ref a_t_text, .int k_t_length, .ref a_t_covers, .int k_t_reached, .ref a_t_order, .ref a_t_way, .ref a_t_tried, .int k_t_acts, .int k_t_next, .ref a_t_row, .ref a_t_lids, .ref a_t_shown, .int k_t_seen, .ref a_t_seenKnot, .ref a_t_seenLid, .ref a_t_seenHad, .long k_t_seed, .ref a_t_isKept, .ref a_t_kept])), (a_t_shown, .inl (cI, 8, .inl R.2))] (some (.int (bI R.1))) A ([.ref a_t, .int p1] : List Value).toArray s) (F0 m 101 ls []) := by
                  intro n101
                  induction n101 with
                  | zero => intro v101_5 v101_6 w101_f_t_shown H locs ls hP hD hS hl hm; rw [mX11_nextRow_L101] at hm; cases hm
                  | succ n101 ih101 =>
                    intro v101_5 v101_6 w101_f_t_shown H locs ls hP hD hS hl hm
                    rw [mX11_nextRow_L101] at hm
                    refine lv_iload hx hb dX11_nextRow_101 (lv_at hl 1 rfl) ?_
                    refine lv_iload hx hb dX11_nextRow_103 (lv_at hl 2 rfl) ?_
                    refine lv_icmp_ge (tgt := 149) hx hb dX11_nextRow_105 (by decide) (fun c105 => ?_) (fun c105 => ?_)
                    · rw [if_pos c105] at hm
                      refine lv_iconst (v := 1) hx hb dX11_nextRow_149 (by decide) ?_
                      have hm := Option.some.inj hm
                      subst hm
                      exact k_zret (v := true) X rfl dX11_nextRow_150 hP hD hS
                    · rw [if_neg c105] at hm
                      refine lv_aload_n hx hb dX11_nextRow_108 rfl (lv_at hl 0 rfl) ?_
                      refine va_get (D := G) (ci := 8) (v := .ref a_t_shown) (C := RX11) (T := TX11) (N := 22) hx hb hts i_X11 hown hK hP 0 rfl rfl 14 (by decide) l_38 (fun _ h9 => h9) rfl dX11_nextRow_109 ?_
                      refine lv_iload hx hb dX11_nextRow_112 (lv_at hl 1 rfl) ?_
                      obtain ⟨g114, hm⟩ := gd_some hm
                      refine va_iald hx hb hK hP 1 0 rfl rfl (kin_ok g114) dX11_nextRow_114 ?_
                      refine lv_istore (lv' := [(4, .int (w101_f_t_shown (Int32.toNatClampNeg v101_5))), (0, .ref a_t), (5, .int v101_5), (6, .int v101_6)]) hx hb dX11_nextRow_115 hl (by decide) rfl (fun ls hl => ?_)
                      refine lv_aload_n hx hb dX11_nextRow_117 rfl (lv_at hl 1 rfl) ?_
                      refine va_get (D := G) (ci := 8) (v := .ref a_t_shown) (C := RX11) (T := TX11) (N := 22) hx hb hts i_X11 hown hK hP 0 rfl rfl 14 (by decide) l_38 (fun _ h9 => h9) rfl dX11_nextRow_118 ?_
                      refine lv_iload hx hb dX11_nextRow_121 (lv_at hl 2 rfl) ?_
                      refine lv_aload_n hx hb dX11_nextRow_123 rfl (lv_at hl 1 rfl) ?_
                      refine va_get (D := G) (ci := 8) (v := .ref a_t_shown) (C := RX11) (T := TX11) (N := 22) hx hb hts i_X11 hown hK hP 0 rfl rfl 14 (by decide) l_38 (fun _ h9 => h9) rfl dX11_nextRow_124 ?_
                      refine lv_iload hx hb dX11_nextRow_127 (lv_at hl 3 rfl) ?_
                      obtain ⟨g129, hm⟩ := gd_some hm
                      refine va_iald hx hb hK hP 1 0 rfl rfl (kin_ok g129) dX11_nextRow_129 ?_
                      obtain ⟨g130, hm⟩ := gd_some hm
                      refine va_iast hx hb hK hP hD hS 1 0 rfl rfl (kin_ok g130) dX11_nextRow_130 (fun H locs hP hD hS => ?_)
                      have hP : va_P G vwCl [(a_t, .inr (8, [.int k_t_knots, .ref a_t_now, .int k_t_readKnots, .ref a_t_text, .int k_t_length, .ref a_t_covers, .int k_t_reached, .ref a_t_order, .ref a_t_way, .ref a_t_tried, .int k_t_acts, .int k_t_next, .ref a_t_row, .ref a_t_lids, .ref a_t_shown, .int k_t_seen, .ref a_t_seenKnot, .ref a_t_seenLid, .ref a_t_seenHad, .long k_t_seed, .ref a_t_isKept, .ref a_t_kept])), (a_t_shown, .inl (cI, 8, .inl (upd w101_f_t_shown (Int32.toNatClampNeg v101_5) (w101_f_t_shown (Int32.toNatClampNeg v101_6)))))] H := hP
                      have hD : va_D A [(a_t, .inr (8, [.int k_t_knots, .ref a_t_now, .int k_t_readKnots, .ref a_t_text, .int k_t_length, .ref a_t_covers, .int k_t_reached, .ref a_t_order, .ref a_t_way, .ref a_t_tried, .int k_t_acts, .int k_t_next, .ref a_t_row, .ref a_t_lids, .ref a_t_shown, .int k_t_seen, .ref a_t_seenKnot, .ref a_t_seenLid, .ref a_t_seenHad, .long k_t_seed, .ref a_t_isKept, .ref a_t_kept])), (a_t_shown, .inl (cI, 8, .inl (upd w101_f_t_shown (Int32.toNatClampNeg v101_5) (w101_f_t_shown (Int32.toNatClampNeg v101_6)))))] := hD
                      refine lv_aload_n hx hb dX11_nextRow_131 rfl (lv_at hl 1 rfl) ?_
                      refine va_get (D := G) (ci := 8) (v := .ref a_t_shown) (C := RX11) (T := TX11) (N := 22) hx hb hts i_X11 hown hK hP 0 rfl rfl 14 (by decide) l_38 (fun _ h9 => h9) rfl dX11_nextRow_132 ?_
                      refine lv_iload hx hb dX11_nextRow_135 (lv_at hl 3 rfl) ?_
                      refine lv_iload hx hb dX11_nextRow_137 (lv_at hl 0 rfl) ?_
                      obtain ⟨g139, hm⟩ := gd_some hm
                      refine va_iast hx hb hK hP hD hS 1 0 rfl rfl (kin_ok g139) dX11_nextRow_139 (fun H locs hP hD hS => ?_)
                      have hP : va_P G vwCl [(a_t, .inr (8, [.int k_t_knots, .ref a_t_now, .int k_t_readKnots, .ref a_t_text, .int k_t_length, .ref a_t_covers, .int k_t_reached, .ref a_t_order, .ref a_t_way, .ref a_t_tried, .int k_t_acts, .int k_t_next, .ref a_t_row, .ref a_t_lids, .ref a_t_shown, .int k_t_seen, .ref a_t_seenKnot, .ref a_t_seenLid, .ref a_t_seenHad, .long k_t_seed, .ref a_t_isKept, .ref a_t_kept])), (a_t_shown, .inl (cI, 8, .inl (upd (upd w101_f_t_shown (Int32.toNatClampNeg v101_5) (w101_f_t_shown (Int32.toNatClampNeg v101_6))) (Int32.toNatClampNeg v101_6) (w101_f_t_shown (Int32.toNatClampNeg v101_5)))))] H := hP
                      have hD : va_D A [(a_t, .inr (8, [.int k_t_knots, .ref a_t_now, .int k_t_readKnots, .ref a_t_text, .int k_t_length, .ref a_t_covers, .int k_t_reached, .ref a_t_order, .ref a_t_way, .ref a_t_tried, .int k_t_acts, .int k_t_next, .ref a_t_row, .ref a_t_lids, .ref a_t_shown, .int k_t_seen, .ref a_t_seenKnot, .ref a_t_seenLid, .ref a_t_seenHad, .long k_t_seed, .ref a_t_isKept, .ref a_t_kept])), (a_t_shown, .inl (cI, 8, .inl (upd (upd w101_f_t_shown (Int32.toNatClampNeg v101_5) (w101_f_t_shown (Int32.toNatClampNeg v101_6))) (Int32.toNatClampNeg v101_6) (w101_f_t_shown (Int32.toNatClampNeg v101_5)))))] := hD
                      refine lv_iinc (v := v101_5 + 1) (lv' := [(5, .int (v101_5 + 1)), (4, .int (w101_f_t_shown (Int32.toNatClampNeg v101_5))), (0, .ref a_t), (6, .int v101_6)]) hx hb dX11_nextRow_140 hl (k := 2) rfl rfl (by decide) rfl (fun ls hl => ?_)
                      refine lv_iinc (v := v101_6 + (-1)) (lv' := [(6, .int (v101_6 + (-1))), (5, .int (v101_5 + 1)), (4, .int (w101_f_t_shown (Int32.toNatClampNeg v101_5))), (0, .ref a_t)]) hx hb dX11_nextRow_143 hl (k := 3) rfl rfl (by decide) rfl (fun ls hl => ?_)
                      refine lv_goto (tgt := 101) hx hb dX11_nextRow_146 (by decide) ?_
                      exact ih101 (v101_5 + 1) (v101_6 + (-1)) (upd (upd w101_f_t_shown (Int32.toNatClampNeg v101_5) (w101_f_t_shown (Int32.toNatClampNeg v101_6))) (Int32.toNatClampNeg v101_6) (w101_f_t_shown (Int32.toNatClampNeg v101_5))) _ _ _ hP hD hS (lv_sub hl [3, 1, 0] rfl) hm
                exact h101 kFU (v4_2 + 1) (p1 - 1) (upd (upd f_t_shown (Int32.toNatClampNeg v4_2) (f_t_shown (Int32.toNatClampNeg v42_3))) (Int32.toNatClampNeg v42_3) (f_t_shown (Int32.toNatClampNeg v4_2))) _ _ _ hP hD hS (lv_sub hl [3, 1, 0] rfl) hm
              refine lv_icmp_ge (tgt := 63) hx hb dX11_nextRow_54 (by decide) (fun c54 => ?_) (fun c54 => ?_)
              · rw [if_pos c54] at hm
                exact h63 _ _ _ hP hD hS (lv_sub hl [0, 1, 2, 3] rfl) hm
              · rw [if_neg c54] at hm
                refine lv_iinc (v := v42_3 + (-1)) (lv' := [(3, .int (v42_3 + (-1))), (0, .ref a_t), (1, .int p1), (2, .int v4_2)]) hx hb dX11_nextRow_57 hl (k := 3) rfl rfl (by decide) rfl (fun ls hl => ?_)
                refine lv_goto (tgt := 42) hx hb dX11_nextRow_60 (by decide) ?_
                exact ih42 (v42_3 + (-1)) _ _ _ hP hD hS (lv_sub hl [1, 2, 3, 0] rfl) hm
          exact h42 kFU (p1 - 1) _ _ _ hP hD hS (lv_sub hl [1, 2, 3, 0] rfl) hm
        · rw [if_neg c33] at hm
          refine lv_iconst (v := 0) hx hb dX11_nextRow_36 (by decide) ?_
          have hm := Option.some.inj hm
          subst hm
          exact k_zret (v := false) X rfl dX11_nextRow_37 hP hD hS
      refine lv_if_le (tgt := 31) hx hb dX11_nextRow_5 (by decide) (fun c5 => ?_) (fun c5 => ?_)
      · rw [if_pos c5] at hm
        exact h31 _ _ _ hP hD hS (lv_sub hl [0, 1, 2] rfl) hm
      · rw [if_neg c5] at hm
        refine lv_aload_n hx hb dX11_nextRow_8 rfl (lv_at hl 0 rfl) ?_
        refine va_get (D := G) (ci := 8) (v := .ref a_t_shown) (C := RX11) (T := TX11) (N := 22) hx hb hts i_X11 hown hK hP 0 rfl rfl 14 (by decide) l_38 (fun _ h9 => h9) rfl dX11_nextRow_9 ?_
        refine lv_iload_n hx hb dX11_nextRow_12 rfl (lv_at hl 2 rfl) ?_
        obtain ⟨g13, hm⟩ := gd_some hm
        refine va_iald hx hb hK hP 1 0 rfl rfl (kin_ok g13) dX11_nextRow_13 ?_
        refine lv_aload_n hx hb dX11_nextRow_14 rfl (lv_at hl 0 rfl) ?_
        refine va_get (D := G) (ci := 8) (v := .ref a_t_shown) (C := RX11) (T := TX11) (N := 22) hx hb hts i_X11 hown hK hP 0 rfl rfl 14 (by decide) l_38 (fun _ h9 => h9) rfl dX11_nextRow_15 ?_
        refine lv_iload_n hx hb dX11_nextRow_18 rfl (lv_at hl 2 rfl) ?_
        refine lv_iconst (v := 1) hx hb dX11_nextRow_19 (by decide) ?_
        refine lv_iadd hx hb dX11_nextRow_20 ?_
        obtain ⟨g21, hm⟩ := gd_some hm
        refine va_iald hx hb hK hP 1 0 rfl rfl (kin_ok g21) dX11_nextRow_21 ?_
        refine lv_icmp_le (tgt := 31) hx hb dX11_nextRow_22 (by decide) (fun c22 => ?_) (fun c22 => ?_)
        · rw [if_pos c22] at hm
          exact h31 _ _ _ hP hD hS (lv_sub hl [0, 1, 2] rfl) hm
        · rw [if_neg c22] at hm
          refine lv_iinc (v := v4_2 + (-1)) (lv' := [(2, .int (v4_2 + (-1))), (0, .ref a_t), (1, .int p1)]) hx hb dX11_nextRow_25 hl (k := 2) rfl rfl (by decide) rfl (fun ls hl => ?_)
          refine lv_goto (tgt := 4) hx hb dX11_nextRow_28 (by decide) ?_
          exact ih4 (v4_2 + (-1)) _ _ _ hP hD hS (lv_sub hl [1, 2, 0] rfl) hm
  exact h4 kFU (p1 - 2) _ _ _ hP hD hS (lv_sub hl [1, 2, 0] rfl) hm
theorem hd_X11_nextRow : yX11_nextRow.cls = RX11 ∧ yX11_nextRow.cls ≠ "java/lang/invoke/MethodHandle" ∧ yX11_nextRow.cls ≠ "java/lang/invoke/VarHandle" ∧ (parseMethodDescriptor yX11_nextRow.desc).map (fun d => d.parameters.length) = some 1 := by decide +kernel
/-! CoverOrderModel showing -/
set_option maxRecDepth 100000 in
set_option maxHeartbeats 4000000 in
theorem c_X11_showing (l : Launch) (G : va_G) (cI cZ cE : ClassId) (a_t a_t_now a_t_text a_t_covers a_t_order a_t_way a_t_tried a_t_row a_t_lids a_t_shown a_t_seenKnot a_t_seenLid a_t_seenHad a_t_isKept a_t_kept : Nat) (k_t_knots : Int32) (k_t_readKnots : Int32) (k_t_length : Int32) (k_t_reached : Int32) (k_t_acts : Int32) (k_t_next : Int32) (k_t_seen : Int32) (k_t_seed : Int64) (f_t_now : Nat → Int32) (f_t_covers : Nat → Int32) (f_t_shown : Nat → Int32) (p1 : Int32) (R : Int32 × Int32 × (Nat → Int32) × (Nat → Int32)) (hm : mX11_showing k_t_reached f_t_now f_t_covers f_t_shown p1 = some R) : kM l yX11_showing wsX11_showing { frames := 4, cells := 0, slots := 0, locals := 97 } G cI cZ cE [.ref a_t, .int p1] [(a_t, .inr (8, [.int k_t_knots, .ref a_t_now, .int k_t_readKnots, .ref a_t_text, .int k_t_length, .ref a_t_covers, .int k_t_reached, .ref a_t_order, .ref a_t_way, .ref a_t_tried, .int k_t_acts, .int k_t_next, .ref a_t_row, .ref a_t_lids, .ref a_t_shown, .int k_t_seen, .ref a_t_seenKnot, .ref a_t_seenLid, .ref a_t_seenHad, .long k_t_seed, .ref a_t_isKept, .ref a_t_kept])), (a_t_now, .inl (cI, 100, .inl f_t_now)), (a_t_covers, .inl (cI, 8, .inl f_t_covers)), (a_t_shown, .inl (cI, 8, .inl f_t_shown))] [(a_t, .inr (8, [.int k_t_knots, .ref a_t_now, .int k_t_readKnots, .ref a_t_text, .int k_t_length, .ref a_t_covers, .int R.2.1, .ref a_t_order, .ref a_t_way, .ref a_t_tried, .int k_t_acts, .int k_t_next, .ref a_t_row, .ref a_t_lids, .ref a_t_shown, .int k_t_seen, .ref a_t_seenKnot, .ref a_t_seenLid, .ref a_t_seenHad, .long k_t_seed, .ref a_t_isKept, .ref a_t_kept])), (a_t_now, .inl (cI, 100, .inl f_t_now)), (a_t_covers, .inl (cI, 8, .inl R.2.2.1)), (a_t_shown, .inl (cI, 8, .inl R.2.2.2))] (some (.int R.1)) := by
  refine kM_of cX11_showing 4 (some .int) RX11 (by decide) rfl rfl (Nat.le_of_ble_eq_true rfl) ?_
  intro p e s m below meth c A ls X hA hP hD hS hl
  have hx := X.1.1
  have hb := X.1.2.1
  have hts := X.1.2.2.2.2
  have hown := X.1.2.2.2.1
  have hK := X.2.2.2.1
  have l_38 : (.fieldLink RX11 38 "CoverOrderModel" "shown" "[I" : Cond).before _ s = true := hts _ (List.mem_of_getElem? (i := 1) (by decide +kernel))
  have i_X11 : ∀ w ∈ u_ws RX11 TX11 22, w ∈ wsX11_showing := k_in _ [53, 54, 55, 56, 57, 58, 59, 60, 61, 62, 63, 64, 65, 66, 67, 68, 69, 70, 71, 72, 73, 74] (by decide +kernel)
  have l_110 : (.fieldLink RX11 110 "CoverOrderModel" "reached" "I" : Cond).before _ s = true := hts _ (List.mem_of_getElem? (i := 2) (by decide +kernel))
  have hl : lv_has ls 4 [(0, .ref a_t), (1, .int p1)] := hl
  rw [mX11_showing] at hm
  refine lv_aload_n hx hb dX11_showing_0 rfl (lv_at hl 0 rfl) ?_
  refine lv_iconst (v := 0) hx hb dX11_showing_1 (by decide) ?_
  obtain ⟨r2, hc2, hm⟩ := kbind hm
  refine kcV (ws1 := [(a_t, .inr (8, [.int k_t_knots, .ref a_t_now, .int k_t_readKnots, .ref a_t_text, .int k_t_length, .ref a_t_covers, .int r2.1, .ref a_t_order, .ref a_t_way, .ref a_t_tried, .int k_t_acts, .int k_t_next, .ref a_t_row, .ref a_t_lids, .ref a_t_shown, .int k_t_seen, .ref a_t_seenKnot, .ref a_t_seenLid, .ref a_t_seenHad, .long k_t_seed, .ref a_t_isKept, .ref a_t_kept])), (a_t_now, .inl (cI, 100, .inl f_t_now)), (a_t_covers, .inl (cI, 8, .inl r2.2)), (a_t_shown, .inl (cI, 8, .inl f_t_shown))]) (st1 := []) X hA (c_X11_findCovers l G cI cZ cE a_t a_t_now a_t_text a_t_covers a_t_order a_t_way a_t_tried a_t_row a_t_lids a_t_shown a_t_seenKnot a_t_seenLid a_t_seenHad a_t_isKept a_t_kept k_t_knots k_t_readKnots k_t_length k_t_reached k_t_acts k_t_next k_t_seen k_t_seed f_t_now f_t_covers 0 r2 hc2) (cwV 1 hts gX11_showing_X11_findCovers rfl rfl rfl hd_X11_findCovers ⟨Nat.le_of_ble_eq_true rfl, Nat.le_of_ble_eq_true rfl⟩) 0 8 rfl rfl hl.1 dX11_showing_2 hP hD hS [0, 1, 2] rfl rfl rfl rfl rfl [] rfl (Nat.le_of_ble_eq_true rfl) rfl ⟨Nat.zero_le _, Nat.zero_le _⟩ (fun H locs hP hD hS => ?_)
  refine lv_iconst (v := 0) hx hb dX11_showing_5 (by decide) ?_
  refine lv_istore_n (lv' := [(2, .int 0), (0, .ref a_t), (1, .int p1)]) hx hb dX11_showing_6 rfl hl (by decide) rfl (fun ls hl => ?_)
  refine lv_iconst (v := 0) hx hb dX11_showing_7 (by decide) ?_
  refine lv_istore_n (lv' := [(3, .int 0), (2, .int 0), (0, .ref a_t), (1, .int p1)]) hx hb dX11_showing_8 rfl hl (by decide) rfl (fun ls hl => ?_)
  have h9 : ∀ (n9 : Nat), ∀ (v9_2 : Int32) (v9_3 : Int32) (w9_f_t_shown : Nat → Int32) (H : Heap) (locs : List Loc) (ls : Array Slot), va_P G vwCl [(a_t, .inr (8, [.int k_t_knots, .ref a_t_now, .int k_t_readKnots, .ref a_t_text, .int k_t_length, .ref a_t_covers, .int r2.1, .ref a_t_order, .ref a_t_way, .ref a_t_tried, .int k_t_acts, .int k_t_next, .ref a_t_row, .ref a_t_lids, .ref a_t_shown, .int k_t_seen, .ref a_t_seenKnot, .ref a_t_seenLid, .ref a_t_seenHad, .long k_t_seed, .ref a_t_isKept, .ref a_t_kept])), (a_t_now, .inl (cI, 100, .inl f_t_now)), (a_t_covers, .inl (cI, 8, .inl r2.2)), (a_t_shown, .inl (cI, 8, .inl w9_f_t_shown))] H → va_D A [(a_t, .inr (8, [.int k_t_knots, .ref a_t_now, .int k_t_readKnots, .ref a_t_text, .int k_t_length, .ref a_t_covers, .int r2.1, .ref a_t_order, .ref a_t_way, .ref a_t_tried, .int k_t_acts, .int k_t_next, .ref a_t_row, .ref a_t_lids, .ref a_t_shown, .int k_t_seen, .ref a_t_seenKnot, .ref a_t_seenLid, .ref a_t_seenHad, .long k_t_seed, .ref a_t_isKept, .ref a_t_kept])), (a_t_now, .inl (cI, 100, .inl f_t_now)), (a_t_covers, .inl (cI, 8, .inl r2.2)), (a_t_shown, .inl (cI, 8, .inl w9_f_t_shown))] → va_S A s.heap H locs → lv_has ls 4 [(0, .ref a_t), (1, .int p1), (2, .int v9_2), (3, .int v9_3)] → mX11_showing_L9 f_t_now p1 r2 n9 v9_2 v9_3 w9_f_t_shown = some R → W p l e { frames := 4, cells := 0, slots := 0, locals := 97 } s m ([.ref a_t, .int p1] : List Value).toArray below meth c H locs 0 0 (kQ below G [(a_t, .inr (8, [.int k_t_knots, .ref a_t_now, .int k_t_readKnots, .ref a_t_text, .int k_t_length, .ref a_t_covers, .int R.2.1, .ref a_t_order, .ref a_t_way, .ref a_t_tried, .int k_t_acts, .int k_t_next, .ref a_t_row, .ref a_t_lids, .ref a_t_shown, .int k_t_seen, .ref a_t_seenKnot, .ref a_t_seenLid, .ref a_t_seenHad, .long k_t_seed, .ref a_t_isKept, .ref a_t_kept])), (a_t_now, .inl (cI, 100, .inl f_t_now)), (a_t_covers, .inl (cI, 8, .inl R.2.2.1)), (a_t_shown, .inl (cI, 8, .inl R.2.2.2))] (some (.int R.1)) A ([.ref a_t, .int p1] : List Value).toArray s) (F0 m 9 ls []) := by
    intro n9
    induction n9 with
    | zero => intro v9_2 v9_3 w9_f_t_shown H locs ls hP hD hS hl hm; rw [mX11_showing_L9] at hm; cases hm
    | succ n9 ih9 =>
      intro v9_2 v9_3 w9_f_t_shown H locs ls hP hD hS hl hm
      rw [mX11_showing_L9] at hm
      refine lv_iload_n hx hb dX11_showing_9 rfl (lv_at hl 3 rfl) ?_
      refine lv_bipush (v := 8) hx hb dX11_showing_10 (by decide) ?_
      have h89 : ∀ (H : Heap) (locs : List Loc) (ls : Array Slot), va_P G vwCl [(a_t, .inr (8, [.int k_t_knots, .ref a_t_now, .int k_t_readKnots, .ref a_t_text, .int k_t_length, .ref a_t_covers, .int r2.1, .ref a_t_order, .ref a_t_way, .ref a_t_tried, .int k_t_acts, .int k_t_next, .ref a_t_row, .ref a_t_lids, .ref a_t_shown, .int k_t_seen, .ref a_t_seenKnot, .ref a_t_seenLid, .ref a_t_seenHad, .long k_t_seed, .ref a_t_isKept, .ref a_t_kept])), (a_t_now, .inl (cI, 100, .inl f_t_now)), (a_t_covers, .inl (cI, 8, .inl r2.2)), (a_t_shown, .inl (cI, 8, .inl w9_f_t_shown))] H → va_D A [(a_t, .inr (8, [.int k_t_knots, .ref a_t_now, .int k_t_readKnots, .ref a_t_text, .int k_t_length, .ref a_t_covers, .int r2.1, .ref a_t_order, .ref a_t_way, .ref a_t_tried, .int k_t_acts, .int k_t_next, .ref a_t_row, .ref a_t_lids, .ref a_t_shown, .int k_t_seen, .ref a_t_seenKnot, .ref a_t_seenLid, .ref a_t_seenHad, .long k_t_seed, .ref a_t_isKept, .ref a_t_kept])), (a_t_now, .inl (cI, 100, .inl f_t_now)), (a_t_covers, .inl (cI, 8, .inl r2.2)), (a_t_shown, .inl (cI, 8, .inl w9_f_t_shown))] → va_S A s.heap H locs → lv_has ls 4 [(0, .ref a_t), (1, .int p1), (2, .int v9_2)] → mX11_showing_J89 f_t_now p1 r2 v9_2 w9_f_t_shown = some R → W p l e { frames := 4, cells := 0, slots := 0, locals := 97 } s m ([.ref a_t, .int p1] : List Value).toArray below meth c H locs 0 0 (kQ below G [(a_t, .inr (8, [.int k_t_knots, .ref a_t_now, .int k_t_readKnots, .ref a_t_text, .int k_t_length, .ref a_t_covers, .int R.2.1, .ref a_t_order, .ref a_t_way, .ref a_t_tried, .int k_t_acts, .int k_t_next, .ref a_t_row, .ref a_t_lids, .ref a_t_shown, .int k_t_seen, .ref a_t_seenKnot, .ref a_t_seenLid, .ref a_t_seenHad, .long k_t_seed, .ref a_t_isKept, .ref a_t_kept])), (a_t_now, .inl (cI, 100, .inl f_t_now)), (a_t_covers, .inl (cI, 8, .inl R.2.2.1)), (a_t_shown, .inl (cI, 8, .inl R.2.2.2))] (some (.int R.1)) A ([.ref a_t, .int p1] : List Value).toArray s) (F0 m 89 ls []) := by
        intro H locs ls hP hD hS hl hm
        rw [mX11_showing_J89] at hm
        refine lv_iload_n hx hb dX11_showing_89 rfl (lv_at hl 1 rfl) ?_
        refine lv_i2l (v := (p1 : Int32).toInt64) hx hb dX11_showing_90 rfl ?_
        refine lv_lconst (v := 0) hx hb dX11_showing_91 (by decide) ?_
        refine lv_iload_n hx hb dX11_showing_92 rfl (lv_at hl 2 rfl) ?_
        refine lv_iconst (v := 1) hx hb dX11_showing_93 (by decide) ?_
        refine lv_isub hx hb dX11_showing_94 ?_
        refine lv_i2l (v := (v9_2 - 1 : Int32).toInt64) hx hb dX11_showing_95 rfl ?_
        refine kcS0 (st1 := [.int (bI (mX11_in ((p1 : Int32).toInt64) 0 ((v9_2 - 1 : Int32).toInt64)))]) X hA (c_X11_in l G cI cZ cE ((p1 : Int32).toInt64) 0 ((v9_2 - 1 : Int32).toInt64) _ rfl) (va_cwS 3 hts gX11_showing_X11_in rfl rfl rfl hd_X11_in ⟨Nat.le_of_ble_eq_true rfl, Nat.le_of_ble_eq_true rfl⟩) hl.1 dX11_showing_96 hP hD hS [] rfl rfl rfl [] rfl (Nat.le_of_ble_eq_true rfl) rfl ⟨Nat.zero_le _, Nat.zero_le _⟩ (fun H locs hP hD hS => ?_)
        refine lv_if_ne (tgt := 105) hx hb dX11_showing_99 (by decide) (fun c99 => ?_) (fun c99 => ?_)
        · have c99 := kb1 c99
          rw [if_pos c99] at hm
          refine lv_iconst (v := 1) hx hb dX11_showing_105 (by decide) ?_
          refine lv_istore_n (lv' := [(3, .int 1), (0, .ref a_t), (1, .int p1), (2, .int v9_2)]) hx hb dX11_showing_106 rfl hl (by decide) rfl (fun ls hl => ?_)
          have h107 : ∀ (n107 : Nat), ∀ (v107_3 : Bool) (w107_f_t_shown : Nat → Int32) (H : Heap) (locs : List Loc) (ls : Array Slot), va_P G vwCl [(a_t, .inr (8, [.int k_t_knots, .ref a_t_now, .int k_t_readKnots, .ref a_t_text, .int k_t_length, .ref a_t_covers, .int r2.1, .ref a_t_order, .ref a_t_way, .ref a_t_tried, .int k_t_acts, .int k_t_next, .ref a_t_row, .ref a_t_lids, .ref a_t_shown, .int k_t_seen, .ref a_t_seenKnot, .ref a_t_seenLid, .ref a_t_seenHad, .long k_t_seed, .ref a_t_isKept, .ref a_t_kept])), (a_t_now, .inl (cI, 100, .inl f_t_now)), (a_t_covers, .inl (cI, 8, .inl r2.2)), (a_t_shown, .inl (cI, 8, .inl w107_f_t_shown))] H → va_D A [(a_t, .inr (8, [.int k_t_knots, .ref a_t_now, .int k_t_readKnots, .ref a_t_text, .int k_t_length, .ref a_t_covers, .int r2.1, .ref a_t_order, .ref a_t_way, .ref a_t_tried, .int k_t_acts, .int k_t_next, .ref a_t_row, .ref a_t_lids, .ref a_t_shown, .int k_t_seen, .ref a_t_seenKnot, .ref a_t_seenLid, .ref a_t_seenHad, .long k_t_seed, .ref a_t_isKept, .ref a_t_kept])), (a_t_now, .inl (cI, 100, .inl f_t_now)), (a_t_covers, .inl (cI, 8, .inl r2.2)), (a_t_shown, .inl (cI, 8, .inl w107_f_t_shown))] → va_S A s.heap H locs → lv_has ls 4 [(0, .ref a_t), (1, .int p1), (2, .int v9_2), (3, .int (bI v107_3))] → mX11_showing_L107 f_t_now p1 r2 v9_2 n107 v107_3 w107_f_t_shown = some R → W p l e { frames := 4, cells := 0, slots := 0, locals := 97 } s m ([.ref a_t, .int p1] : List Value).toArray below meth c H locs 0 0 (kQ below G [(a_t, .inr (8, [.int k_t_knots, .ref a_t_now, .int k_t_readKnots, .ref a_t_text, .int k_t_length, .ref a_t_covers, .int R.2.1, .ref a_t_order, .ref a_t_way, .ref a_t_tried, .int k_t_acts, .int k_t_next, .ref a_t_row, .ref a_t_lids, .ref a_t_shown, .int k_t_seen, .ref a_t_seenKnot, .ref a_t_seenLid, .ref a_t_seenHad, .long k_t_seed, .ref a_t_isKept, .ref a_t_kept])), (a_t_now, .inl (cI, 100, .inl f_t_now)), (a_t_covers, .inl (cI, 8, .inl R.2.2.1)), (a_t_shown, .inl (cI, 8, .inl R.2.2.2))] (some (.int R.1)) A ([.ref a_t, .int p1] : List Value).toArray s) (F0 m 107 ls []) := by
            intro n107
            induction n107 with
            | zero => intro v107_3 w107_f_t_shown H locs ls hP hD hS hl hm; rw [mX11_showing_L107] at hm; cases hm
            | succ n107 ih107 =>
              intro v107_3 w107_f_t_shown H locs ls hP hD hS hl hm
              rw [mX11_showing_L107] at hm
              refine lv_iload_n hx hb dX11_showing_107 rfl (lv_at hl 3 rfl) ?_
              have h130 : ∀ (H : Heap) (locs : List Loc) (ls : Array Slot), va_P G vwCl [(a_t, .inr (8, [.int k_t_knots, .ref a_t_now, .int k_t_readKnots, .ref a_t_text, .int k_t_length, .ref a_t_covers, .int r2.1, .ref a_t_order, .ref a_t_way, .ref a_t_tried, .int k_t_acts, .int k_t_next, .ref a_t_row, .ref a_t_lids, .ref a_t_shown, .int k_t_seen, .ref a_t_seenKnot, .ref a_t_seenLid, .ref a_t_seenHad, .long k_t_seed, .ref a_t_isKept, .ref a_t_kept])), (a_t_now, .inl (cI, 100, .inl f_t_now)), (a_t_covers, .inl (cI, 8, .inl r2.2)), (a_t_shown, .inl (cI, 8, .inl w107_f_t_shown))] H → va_D A [(a_t, .inr (8, [.int k_t_knots, .ref a_t_now, .int k_t_readKnots, .ref a_t_text, .int k_t_length, .ref a_t_covers, .int r2.1, .ref a_t_order, .ref a_t_way, .ref a_t_tried, .int k_t_acts, .int k_t_next, .ref a_t_row, .ref a_t_lids, .ref a_t_shown, .int k_t_seen, .ref a_t_seenKnot, .ref a_t_seenLid, .ref a_t_seenHad, .long k_t_seed, .ref a_t_isKept, .ref a_t_kept])), (a_t_now, .inl (cI, 100, .inl f_t_now)), (a_t_covers, .inl (cI, 8, .inl r2.2)), (a_t_shown, .inl (cI, 8, .inl w107_f_t_shown))] → va_S A s.heap H locs → lv_has ls 4 [(0, .ref a_t), (1, .int p1), (3, .int (bI v107_3))] → mX11_showing_J130 p1 r2 v107_3 w107_f_t_shown = some R → W p l e { frames := 4, cells := 0, slots := 0, locals := 97 } s m ([.ref a_t, .int p1] : List Value).toArray below meth c H locs 0 0 (kQ below G [(a_t, .inr (8, [.int k_t_knots, .ref a_t_now, .int k_t_readKnots, .ref a_t_text, .int k_t_length, .ref a_t_covers, .int R.2.1, .ref a_t_order, .ref a_t_way, .ref a_t_tried, .int k_t_acts, .int k_t_next, .ref a_t_row, .ref a_t_lids, .ref a_t_shown, .int k_t_seen, .ref a_t_seenKnot, .ref a_t_seenLid, .ref a_t_seenHad, .long k_t_seed, .ref a_t_isKept, .ref a_t_kept])), (a_t_now, .inl (cI, 100, .inl f_t_now)), (a_t_covers, .inl (cI, 8, .inl R.2.2.1)), (a_t_shown, .inl (cI, 8, .inl R.2.2.2))] (some (.int R.1)) A ([.ref a_t, .int p1] : List Value).toArray s) (F0 m 130 ls []) := by
                intro H locs ls hP hD hS hl hm
                rw [mX11_showing_J130] at hm
                refine lv_iload_n hx hb dX11_showing_130 rfl (lv_at hl 2 rfl) ?_
                refine lv_if_eq (tgt := 143) hx hb dX11_showing_131 (by decide) (fun c131 => ?_) (fun c131 => ?_)
                · have c131 := kb0 c131
                  rw [if_neg c131] at hm
                  refine lv_bipush (v := (-9)) hx hb dX11_showing_143 (by decide) ?_
                  have hm := Option.some.inj hm
                  subst hm
                  exact k_iret (v := (-9)) X rfl dX11_showing_145 hP hD hS
                · have c131 := kb1 c131
                  rw [if_pos c131] at hm
                  refine lv_aload_n hx hb dX11_showing_134 rfl (lv_at hl 0 rfl) ?_
                  refine va_get (D := G) (ci := 8) (v := .ref a_t_shown) (C := RX11) (T := TX11) (N := 22) hx hb hts i_X11 hown hK hP 0 rfl rfl 14 (by decide) l_38 (fun _ h9 => h9) rfl dX11_showing_135 ?_
                  refine lv_iload_n hx hb dX11_showing_138 rfl (lv_at hl 1 rfl) ?_
                  obtain ⟨g139, hm⟩ := gd_some hm
                  refine va_iald hx hb hK hP 3 0 rfl rfl (kin_ok g139) dX11_showing_139 ?_
                  refine lv_goto (tgt := 145) hx hb dX11_showing_140 (by decide) ?_
                  have hm := Option.some.inj hm
                  subst hm
                  exact k_iret (v := w107_f_t_shown (Int32.toNatClampNeg p1)) X rfl dX11_showing_145 hP hD hS
              refine lv_if_eq (tgt := 130) hx hb dX11_showing_108 (by decide) (fun c108 => ?_) (fun c108 => ?_)
              · have c108 := kb0 c108
                rw [if_neg c108] at hm
                exact h130 _ _ _ hP hD hS (lv_sub hl [0, 1, 3] rfl) hm
              · have c108 := kb1 c108
                rw [if_pos c108] at hm
                refine lv_aload_n hx hb dX11_showing_111 rfl (lv_at hl 0 rfl) ?_
                refine lv_iload_n hx hb dX11_showing_112 rfl (lv_at hl 2 rfl) ?_
                obtain ⟨r113, hc113, hm⟩ := kbind hm
                refine kcV0 (st1 := [.int r113]) X hA (c_X11_firstWrong l G cI cZ cE a_t a_t_now a_t_text a_t_covers a_t_order a_t_way a_t_tried a_t_row a_t_lids a_t_shown a_t_seenKnot a_t_seenLid a_t_seenHad a_t_isKept a_t_kept k_t_knots k_t_readKnots k_t_length r2.1 k_t_acts k_t_next k_t_seen k_t_seed f_t_now r2.2 w107_f_t_shown v9_2 r113 hc113) (cwV 1 hts gX11_showing_X11_firstWrong rfl rfl rfl hd_X11_firstWrong ⟨Nat.le_of_ble_eq_true rfl, Nat.le_of_ble_eq_true rfl⟩) 0 8 rfl rfl hl.1 dX11_showing_113 hP hD hS [0, 1, 2, 3] rfl rfl rfl [] rfl (Nat.le_of_ble_eq_true rfl) rfl ⟨Nat.zero_le _, Nat.zero_le _⟩ (fun H locs hP hD hS => ?_)
                refine lv_bipush (v := (-9)) hx hb dX11_showing_116 (by decide) ?_
                refine lv_icmp_eq (tgt := 130) hx hb dX11_showing_118 (by decide) (fun c118 => ?_) (fun c118 => ?_)
                · rw [if_pos c118] at hm
                  exact h130 _ _ _ hP hD hS (lv_sub hl [0, 1, 3] rfl) hm
                · rw [if_neg c118] at hm
                  refine lv_aload_n hx hb dX11_showing_121 rfl (lv_at hl 0 rfl) ?_
                  refine lv_iload_n hx hb dX11_showing_122 rfl (lv_at hl 2 rfl) ?_
                  obtain ⟨r123, hc123, hm⟩ := kbind hm
                  refine kcV (ws1 := [(a_t, .inr (8, [.int k_t_knots, .ref a_t_now, .int k_t_readKnots, .ref a_t_text, .int k_t_length, .ref a_t_covers, .int r2.1, .ref a_t_order, .ref a_t_way, .ref a_t_tried, .int k_t_acts, .int k_t_next, .ref a_t_row, .ref a_t_lids, .ref a_t_shown, .int k_t_seen, .ref a_t_seenKnot, .ref a_t_seenLid, .ref a_t_seenHad, .long k_t_seed, .ref a_t_isKept, .ref a_t_kept])), (a_t_now, .inl (cI, 100, .inl f_t_now)), (a_t_covers, .inl (cI, 8, .inl r2.2)), (a_t_shown, .inl (cI, 8, .inl r123.2))]) (st1 := [.int (bI r123.1)]) X hA (c_X11_nextRow l G cI cZ cE a_t a_t_now a_t_text a_t_covers a_t_order a_t_way a_t_tried a_t_row a_t_lids a_t_shown a_t_seenKnot a_t_seenLid a_t_seenHad a_t_isKept a_t_kept k_t_knots k_t_readKnots k_t_length r2.1 k_t_acts k_t_next k_t_seen k_t_seed w107_f_t_shown v9_2 r123 hc123) (cwV 1 hts gX11_showing_X11_nextRow rfl rfl rfl hd_X11_nextRow ⟨Nat.le_of_ble_eq_true rfl, Nat.le_of_ble_eq_true rfl⟩) 0 8 rfl rfl hl.1 dX11_showing_123 hP hD hS [0, 3] rfl rfl rfl rfl rfl [] rfl (Nat.le_of_ble_eq_true rfl) rfl ⟨Nat.zero_le _, Nat.zero_le _⟩ (fun H locs hP hD hS => ?_)
                  refine lv_istore_n (lv' := [(3, .int (bI r123.1)), (0, .ref a_t), (1, .int p1), (2, .int v9_2)]) hx hb dX11_showing_126 rfl hl (by decide) rfl (fun ls hl => ?_)
                  refine lv_goto (tgt := 107) hx hb dX11_showing_127 (by decide) ?_
                  exact ih107 r123.1 r123.2 _ _ _ hP hD hS (lv_sub hl [1, 2, 3, 0] rfl) hm
          exact h107 kFU true w9_f_t_shown _ _ _ hP hD hS (lv_sub hl [1, 2, 3, 0] rfl) hm
        · have c99 := kb0 c99
          rw [if_neg c99] at hm
          refine lv_bipush (v := (-9)) hx hb dX11_showing_102 (by decide) ?_
          have hm := Option.some.inj hm
          subst hm
          exact k_iret (v := (-9)) X rfl dX11_showing_104 hP hD hS
      refine lv_icmp_ge (tgt := 89) hx hb dX11_showing_12 (by decide) (fun c12 => ?_) (fun c12 => ?_)
      · rw [if_pos c12] at hm
        exact h89 _ _ _ hP hD hS (lv_sub hl [0, 1, 2] rfl) hm
      · rw [if_neg c12] at hm
        refine lv_aload_n hx hb dX11_showing_15 rfl (lv_at hl 0 rfl) ?_
        refine va_get (D := G) (ci := 8) (v := .ref a_t_shown) (C := RX11) (T := TX11) (N := 22) hx hb hts i_X11 hown hK hP 0 rfl rfl 14 (by decide) l_38 (fun _ h9 => h9) rfl dX11_showing_16 ?_
        refine lv_iload_n hx hb dX11_showing_19 rfl (lv_at hl 2 rfl) ?_
        refine lv_bipush (v := 8) hx hb dX11_showing_20 (by decide) ?_
        have h31 : ∀ (s31_1 : Int32) (H : Heap) (locs : List Loc) (ls : Array Slot), va_P G vwCl [(a_t, .inr (8, [.int k_t_knots, .ref a_t_now, .int k_t_readKnots, .ref a_t_text, .int k_t_length, .ref a_t_covers, .int r2.1, .ref a_t_order, .ref a_t_way, .ref a_t_tried, .int k_t_acts, .int k_t_next, .ref a_t_row, .ref a_t_lids, .ref a_t_shown, .int k_t_seen, .ref a_t_seenKnot, .ref a_t_seenLid, .ref a_t_seenHad, .long k_t_seed, .ref a_t_isKept, .ref a_t_kept])), (a_t_now, .inl (cI, 100, .inl f_t_now)), (a_t_covers, .inl (cI, 8, .inl r2.2)), (a_t_shown, .inl (cI, 8, .inl w9_f_t_shown))] H → va_D A [(a_t, .inr (8, [.int k_t_knots, .ref a_t_now, .int k_t_readKnots, .ref a_t_text, .int k_t_length, .ref a_t_covers, .int r2.1, .ref a_t_order, .ref a_t_way, .ref a_t_tried, .int k_t_acts, .int k_t_next, .ref a_t_row, .ref a_t_lids, .ref a_t_shown, .int k_t_seen, .ref a_t_seenKnot, .ref a_t_seenLid, .ref a_t_seenHad, .long k_t_seed, .ref a_t_isKept, .ref a_t_kept])), (a_t_now, .inl (cI, 100, .inl f_t_now)), (a_t_covers, .inl (cI, 8, .inl r2.2)), (a_t_shown, .inl (cI, 8, .inl w9_f_t_shown))] → va_S A s.heap H locs → lv_has ls 4 [(0, .ref a_t), (1, .int p1), (2, .int v9_2), (3, .int v9_3)] → mX11_showing_J31 (mX11_showing_L9 f_t_now p1 r2 n9) r2 v9_2 v9_3 w9_f_t_shown s31_1 = some R → W p l e { frames := 4, cells := 0, slots := 0, locals := 97 } s m ([.ref a_t, .int p1] : List Value).toArray below meth c H locs 0 0 (kQ below G [(a_t, .inr (8, [.int k_t_knots, .ref a_t_now, .int k_t_readKnots, .ref a_t_text, .int k_t_length, .ref a_t_covers, .int R.2.1, .ref a_t_order, .ref a_t_way, .ref a_t_tried, .int k_t_acts, .int k_t_next, .ref a_t_row, .ref a_t_lids, .ref a_t_shown, .int k_t_seen, .ref a_t_seenKnot, .ref a_t_seenLid, .ref a_t_seenHad, .long k_t_seed, .ref a_t_isKept, .ref a_t_kept])), (a_t_now, .inl (cI, 100, .inl f_t_now)), (a_t_covers, .inl (cI, 8, .inl R.2.2.1)), (a_t_shown, .inl (cI, 8, .inl R.2.2.2))] (some (.int R.1)) A ([.ref a_t, .int p1] : List Value).toArray s) (F0 m 31 ls [.int s31_1, .ref a_t_shown]) := by
          intro s31_1 H locs ls hP hD hS hl hm
          rw [mX11_showing_J31] at hm
          refine lv_aload_n hx hb dX11_showing_31 rfl (lv_at hl 0 rfl) ?_
          refine va_get (D := G) (ci := 8) (v := .int r2.1) (C := RX11) (T := TX11) (N := 22) hx hb hts i_X11 hown hK hP 0 rfl rfl 6 (by decide) l_110 (fun _ h9 => h9) rfl dX11_showing_32 ?_
          refine lv_iload_n hx hb dX11_showing_35 rfl (lv_at hl 3 rfl) ?_
          refine kcS0 (st1 := [.int (bI (mX11_has r2.1 v9_3)), .int s31_1, .ref a_t_shown]) X hA (c_X11_has l G cI cZ cE r2.1 v9_3 _ rfl) (va_cwS 2 hts gX11_showing_X11_has rfl rfl rfl hd_X11_has ⟨Nat.le_of_ble_eq_true rfl, Nat.le_of_ble_eq_true rfl⟩) hl.1 dX11_showing_36 hP hD hS [] rfl rfl rfl [.int s31_1, .ref a_t_shown] rfl (Nat.le_of_ble_eq_true rfl) rfl ⟨Nat.zero_le _, Nat.zero_le _⟩ (fun H locs hP hD hS => ?_)
          have h63 : ∀ (s63_2 : Int32) (H : Heap) (locs : List Loc) (ls : Array Slot), va_P G vwCl [(a_t, .inr (8, [.int k_t_knots, .ref a_t_now, .int k_t_readKnots, .ref a_t_text, .int k_t_length, .ref a_t_covers, .int r2.1, .ref a_t_order, .ref a_t_way, .ref a_t_tried, .int k_t_acts, .int k_t_next, .ref a_t_row, .ref a_t_lids, .ref a_t_shown, .int k_t_seen, .ref a_t_seenKnot, .ref a_t_seenLid, .ref a_t_seenHad, .long k_t_seed, .ref a_t_isKept, .ref a_t_kept])), (a_t_now, .inl (cI, 100, .inl f_t_now)), (a_t_covers, .inl (cI, 8, .inl r2.2)), (a_t_shown, .inl (cI, 8, .inl w9_f_t_shown))] H → va_D A [(a_t, .inr (8, [.int k_t_knots, .ref a_t_now, .int k_t_readKnots, .ref a_t_text, .int k_t_length, .ref a_t_covers, .int r2.1, .ref a_t_order, .ref a_t_way, .ref a_t_tried, .int k_t_acts, .int k_t_next, .ref a_t_row, .ref a_t_lids, .ref a_t_shown, .int k_t_seen, .ref a_t_seenKnot, .ref a_t_seenLid, .ref a_t_seenHad, .long k_t_seed, .ref a_t_isKept, .ref a_t_kept])), (a_t_now, .inl (cI, 100, .inl f_t_now)), (a_t_covers, .inl (cI, 8, .inl r2.2)), (a_t_shown, .inl (cI, 8, .inl w9_f_t_shown))] → va_S A s.heap H locs → lv_has ls 4 [(0, .ref a_t), (1, .int p1), (2, .int v9_2), (3, .int v9_3)] → mX11_showing_J63 (mX11_showing_L9 f_t_now p1 r2 n9) r2 v9_2 v9_3 w9_f_t_shown s31_1 s63_2 = some R → W p l e { frames := 4, cells := 0, slots := 0, locals := 97 } s m ([.ref a_t, .int p1] : List Value).toArray below meth c H locs 0 0 (kQ below G [(a_t, .inr (8, [.int k_t_knots, .ref a_t_now, .int k_t_readKnots, .ref a_t_text, .int k_t_length, .ref a_t_covers, .int R.2.1, .ref a_t_order, .ref a_t_way, .ref a_t_tried, .int k_t_acts, .int k_t_next, .ref a_t_row, .ref a_t_lids, .ref a_t_shown, .int k_t_seen, .ref a_t_seenKnot, .ref a_t_seenLid, .ref a_t_seenHad, .long k_t_seed, .ref a_t_isKept, .ref a_t_kept])), (a_t_now, .inl (cI, 100, .inl f_t_now)), (a_t_covers, .inl (cI, 8, .inl R.2.2.1)), (a_t_shown, .inl (cI, 8, .inl R.2.2.2))] (some (.int R.1)) A ([.ref a_t, .int p1] : List Value).toArray s) (F0 m 63 ls [.int s63_2, .int s31_1, .ref a_t_shown]) := by
            intro s63_2 H locs ls hP hD hS hl hm
            rw [mX11_showing_J63] at hm
            obtain ⟨g63, hm⟩ := gd_some hm
            refine va_iast hx hb hK hP hD hS 3 0 rfl rfl (kin_ok g63) dX11_showing_63 (fun H locs hP hD hS => ?_)
            have hP : va_P G vwCl [(a_t, .inr (8, [.int k_t_knots, .ref a_t_now, .int k_t_readKnots, .ref a_t_text, .int k_t_length, .ref a_t_covers, .int r2.1, .ref a_t_order, .ref a_t_way, .ref a_t_tried, .int k_t_acts, .int k_t_next, .ref a_t_row, .ref a_t_lids, .ref a_t_shown, .int k_t_seen, .ref a_t_seenKnot, .ref a_t_seenLid, .ref a_t_seenHad, .long k_t_seed, .ref a_t_isKept, .ref a_t_kept])), (a_t_now, .inl (cI, 100, .inl f_t_now)), (a_t_covers, .inl (cI, 8, .inl r2.2)), (a_t_shown, .inl (cI, 8, .inl (upd w9_f_t_shown (Int32.toNatClampNeg s31_1) s63_2)))] H := hP
            have hD : va_D A [(a_t, .inr (8, [.int k_t_knots, .ref a_t_now, .int k_t_readKnots, .ref a_t_text, .int k_t_length, .ref a_t_covers, .int r2.1, .ref a_t_order, .ref a_t_way, .ref a_t_tried, .int k_t_acts, .int k_t_next, .ref a_t_row, .ref a_t_lids, .ref a_t_shown, .int k_t_seen, .ref a_t_seenKnot, .ref a_t_seenLid, .ref a_t_seenHad, .long k_t_seed, .ref a_t_isKept, .ref a_t_kept])), (a_t_now, .inl (cI, 100, .inl f_t_now)), (a_t_covers, .inl (cI, 8, .inl r2.2)), (a_t_shown, .inl (cI, 8, .inl (upd w9_f_t_shown (Int32.toNatClampNeg s31_1) s63_2)))] := hD
            refine lv_iload_n hx hb dX11_showing_64 rfl (lv_at hl 2 rfl) ?_
            refine lv_aload_n hx hb dX11_showing_65 rfl (lv_at hl 0 rfl) ?_
            refine va_get (D := G) (ci := 8) (v := .int r2.1) (C := RX11) (T := TX11) (N := 22) hx hb hts i_X11 hown hK hP 0 rfl rfl 6 (by decide) l_110 (fun _ h9 => h9) rfl dX11_showing_66 ?_
            refine lv_iload_n hx hb dX11_showing_69 rfl (lv_at hl 3 rfl) ?_
            refine kcS0 (st1 := [.int (bI (mX11_has r2.1 v9_3)), .int v9_2]) X hA (c_X11_has l G cI cZ cE r2.1 v9_3 _ rfl) (va_cwS 2 hts gX11_showing_X11_has rfl rfl rfl hd_X11_has ⟨Nat.le_of_ble_eq_true rfl, Nat.le_of_ble_eq_true rfl⟩) hl.1 dX11_showing_70 hP hD hS [] rfl rfl rfl [.int v9_2] rfl (Nat.le_of_ble_eq_true rfl) rfl ⟨Nat.zero_le _, Nat.zero_le _⟩ (fun H locs hP hD hS => ?_)
            refine lv_if_eq (tgt := 80) hx hb dX11_showing_73 (by decide) (fun c73 => ?_) (fun c73 => ?_)
            · have c73 := kb0 c73
              rw [if_neg c73] at hm
              refine lv_iconst (v := 0) hx hb dX11_showing_80 (by decide) ?_
              refine lv_iadd hx hb dX11_showing_81 ?_
              refine lv_istore_n (lv' := [(2, .int (v9_2 + 0)), (0, .ref a_t), (1, .int p1), (3, .int v9_3)]) hx hb dX11_showing_82 rfl hl (by decide) rfl (fun ls hl => ?_)
              refine lv_iinc (v := v9_3 + 1) (lv' := [(3, .int (v9_3 + 1)), (2, .int (v9_2 + 0)), (0, .ref a_t), (1, .int p1)]) hx hb dX11_showing_83 hl (k := 3) rfl rfl (by decide) rfl (fun ls hl => ?_)
              refine lv_goto (tgt := 9) hx hb dX11_showing_86 (by decide) ?_
              exact ih9 (v9_2 + 0) (v9_3 + 1) (upd w9_f_t_shown (Int32.toNatClampNeg s31_1) s63_2) _ _ _ hP hD hS (lv_sub hl [2, 3, 1, 0] rfl) hm
            · have c73 := kb1 c73
              rw [if_pos c73] at hm
              refine lv_iconst (v := 1) hx hb dX11_showing_76 (by decide) ?_
              refine lv_goto (tgt := 81) hx hb dX11_showing_77 (by decide) ?_
              refine lv_iadd hx hb dX11_showing_81 ?_
              refine lv_istore_n (lv' := [(2, .int (v9_2 + 1)), (0, .ref a_t), (1, .int p1), (3, .int v9_3)]) hx hb dX11_showing_82 rfl hl (by decide) rfl (fun ls hl => ?_)
              refine lv_iinc (v := v9_3 + 1) (lv' := [(3, .int (v9_3 + 1)), (2, .int (v9_2 + 1)), (0, .ref a_t), (1, .int p1)]) hx hb dX11_showing_83 hl (k := 3) rfl rfl (by decide) rfl (fun ls hl => ?_)
              refine lv_goto (tgt := 9) hx hb dX11_showing_86 (by decide) ?_
              exact ih9 (v9_2 + 1) (v9_3 + 1) (upd w9_f_t_shown (Int32.toNatClampNeg s31_1) s63_2) _ _ _ hP hD hS (lv_sub hl [2, 3, 1, 0] rfl) hm
          refine lv_if_eq (tgt := 46) hx hb dX11_showing_39 (by decide) (fun c39 => ?_) (fun c39 => ?_)
          · have c39 := kb0 c39
            rw [if_neg c39] at hm
            refine lv_aload_n hx hb dX11_showing_46 rfl (lv_at hl 0 rfl) ?_
            refine va_get (D := G) (ci := 8) (v := .ref a_t_shown) (C := RX11) (T := TX11) (N := 22) hx hb hts i_X11 hown hK hP 0 rfl rfl 14 (by decide) l_38 (fun _ h9 => h9) rfl dX11_showing_47 ?_
            refine lv_iload_n hx hb dX11_showing_50 rfl (lv_at hl 2 rfl) ?_
            refine lv_bipush (v := 8) hx hb dX11_showing_51 (by decide) ?_
            refine lv_icmp_ge (tgt := 60) hx hb dX11_showing_53 (by decide) (fun c53 => ?_) (fun c53 => ?_)
            · rw [if_pos c53] at hm
              refine lv_bipush (v := 7) hx hb dX11_showing_60 (by decide) ?_
              refine va_iald hx hb hK hP 3 0 rfl rfl (kin_ok (by decide)) dX11_showing_62 ?_
              exact h63 (w9_f_t_shown (Int32.toNatClampNeg 7)) _ _ _ hP hD hS (lv_sub hl [0, 1, 2, 3] rfl) hm
            · rw [if_neg c53] at hm
              refine lv_iload_n hx hb dX11_showing_56 rfl (lv_at hl 2 rfl) ?_
              refine lv_goto (tgt := 62) hx hb dX11_showing_57 (by decide) ?_
              obtain ⟨g62, hm⟩ := gd_some hm
              refine va_iald hx hb hK hP 3 0 rfl rfl (kin_ok g62) dX11_showing_62 ?_
              exact h63 (w9_f_t_shown (Int32.toNatClampNeg v9_2)) _ _ _ hP hD hS (lv_sub hl [0, 1, 2, 3] rfl) hm
          · have c39 := kb1 c39
            rw [if_pos c39] at hm
            refine lv_iload_n hx hb dX11_showing_42 rfl (lv_at hl 3 rfl) ?_
            refine lv_goto (tgt := 63) hx hb dX11_showing_43 (by decide) ?_
            exact h63 v9_3 _ _ _ hP hD hS (lv_sub hl [0, 1, 2, 3] rfl) hm
        refine lv_icmp_ge (tgt := 29) hx hb dX11_showing_22 (by decide) (fun c22 => ?_) (fun c22 => ?_)
        · rw [if_pos c22] at hm
          refine lv_bipush (v := 7) hx hb dX11_showing_29 (by decide) ?_
          exact h31 7 _ _ _ hP hD hS (lv_sub hl [0, 1, 2, 3] rfl) hm
        · rw [if_neg c22] at hm
          refine lv_iload_n hx hb dX11_showing_25 rfl (lv_at hl 2 rfl) ?_
          refine lv_goto (tgt := 31) hx hb dX11_showing_26 (by decide) ?_
          exact h31 v9_2 _ _ _ hP hD hS (lv_sub hl [0, 1, 2, 3] rfl) hm
  exact h9 kFU 0 0 f_t_shown _ _ _ hP hD hS (lv_sub hl [2, 3, 1, 0] rfl) hm
theorem hd_X11_showing : yX11_showing.cls = RX11 ∧ yX11_showing.cls ≠ "java/lang/invoke/MethodHandle" ∧ yX11_showing.cls ≠ "java/lang/invoke/VarHandle" ∧ (parseMethodDescriptor yX11_showing.desc).map (fun d => d.parameters.length) = some 1 := by decide +kernel
/-! CoverOrderModel tenTo -/
set_option maxRecDepth 100000 in
set_option maxHeartbeats 4000000 in
theorem c_X11_tenTo (l : Launch) (G : va_G) (cI cZ cE : ClassId) (p0 : Int32) (R : Int64) (hm : mX11_tenTo p0 = some R) : kM l yX11_tenTo wsX11_tenTo { frames := 0, cells := 0, slots := 0, locals := 0 } G cI cZ cE [.int p0] [] [] (some (.long R)) := by
  refine kM_of cX11_tenTo 4 (some .long) RX11 (by decide) rfl rfl (Nat.le_of_ble_eq_true rfl) ?_
  intro p e s m below meth c A ls X hA hP hD hS hl
  have hx := X.1.1
  have hb := X.1.2.1
  have hts := X.1.2.2.2.2
  have hown := X.1.2.2.2.1
  have hK := X.2.2.2.1
  have k_166 : (.constantLong RX11 166 (10) : Cond).before _ s = true := hts _ (List.mem_of_getElem? (i := 1) (by decide +kernel))
  have hl : lv_has ls 4 [(0, .int p0)] := hl
  rw [mX11_tenTo] at hm
  refine lv_lconst (v := 1) hx hb dX11_tenTo_0 (by decide) ?_
  refine lv_lstore_n (lv' := [(1, .long 1), (0, .int p0)]) hx hb dX11_tenTo_1 rfl hl (by decide) rfl (fun ls hl => ?_)
  refine lv_iconst (v := 0) hx hb dX11_tenTo_2 (by decide) ?_
  refine lv_istore_n (lv' := [(3, .int 0), (1, .long 1), (0, .int p0)]) hx hb dX11_tenTo_3 rfl hl (by decide) rfl (fun ls hl => ?_)
  have h4 : ∀ (n4 : Nat), ∀ (v4_1 : Int64) (v4_3 : Int32) (H : Heap) (locs : List Loc) (ls : Array Slot), va_P G vwCl [] H → va_D A [] → va_S A s.heap H locs → lv_has ls 4 [(0, .int p0), (1, .long v4_1), (3, .int v4_3)] → mX11_tenTo_L4 p0 n4 v4_1 v4_3 = some R → W p l e { frames := 0, cells := 0, slots := 0, locals := 0 } s m ([.int p0] : List Value).toArray below meth c H locs 0 0 (kQ below G [] (some (.long R)) A ([.int p0] : List Value).toArray s) (F0 m 4 ls []) := by
    intro n4
    induction n4 with
    | zero => intro v4_1 v4_3 H locs ls hP hD hS hl hm; rw [mX11_tenTo_L4] at hm; cases hm
    | succ n4 ih4 =>
      intro v4_1 v4_3 H locs ls hP hD hS hl hm
      rw [mX11_tenTo_L4] at hm
      refine lv_iload_n hx hb dX11_tenTo_4 rfl (lv_at hl 2 rfl) ?_
      refine lv_iload_n hx hb dX11_tenTo_5 rfl (lv_at hl 0 rfl) ?_
      refine lv_icmp_ge (tgt := 21) hx hb dX11_tenTo_6 (by decide) (fun c6 => ?_) (fun c6 => ?_)
      · rw [if_pos c6] at hm
        refine lv_lload_n hx hb dX11_tenTo_21 rfl (lv_at hl 1 rfl) ?_
        have hm := Option.some.inj hm
        subst hm
        exact k_lret X rfl dX11_tenTo_22 hP hD hS
      · rw [if_neg c6] at hm
        refine lv_lload_n hx hb dX11_tenTo_9 rfl (lv_at hl 1 rfl) ?_
        refine lv_ldc2 (v := 10) hx hb hown k_166 dX11_tenTo_10 ?_
        refine lv_lmul hx hb dX11_tenTo_13 ?_
        refine lv_lstore_n (lv' := [(1, .long (v4_1 * 10)), (0, .int p0), (3, .int v4_3)]) hx hb dX11_tenTo_14 rfl hl (by decide) rfl (fun ls hl => ?_)
        refine lv_iinc (v := v4_3 + 1) (lv' := [(3, .int (v4_3 + 1)), (1, .long (v4_1 * 10)), (0, .int p0)]) hx hb dX11_tenTo_15 hl (k := 2) rfl rfl (by decide) rfl (fun ls hl => ?_)
        refine lv_goto (tgt := 4) hx hb dX11_tenTo_18 (by decide) ?_
        exact ih4 (v4_1 * 10) (v4_3 + 1) _ _ _ hP hD hS (lv_sub hl [2, 1, 0] rfl) hm
  exact h4 kFU 1 0 _ _ _ hP hD hS (lv_sub hl [2, 1, 0] rfl) hm
theorem hd_X11_tenTo : yX11_tenTo.cls ≠ "java/lang/invoke/MethodHandle" ∧ yX11_tenTo.cls ≠ "java/lang/invoke/VarHandle" ∧ (parseMethodDescriptor yX11_tenTo.desc).map (fun d => d.parameters.length) = some 1 := by decide +kernel
/-! CoverOrderModel look -/
set_option maxRecDepth 100000 in
set_option maxHeartbeats 4000000 in
theorem c_X11_look (l : Launch) (G : va_G) (cI cZ cE : ClassId) (a_t a_t_now a_t_text a_t_covers a_t_order a_t_way a_t_tried a_t_row a_t_lids a_t_shown a_t_seenKnot a_t_seenLid a_t_seenHad a_t_isKept a_t_kept : Nat) (k_t_knots : Int32) (k_t_readKnots : Int32) (k_t_length : Int32) (k_t_reached : Int32) (k_t_acts : Int32) (k_t_next : Int32) (k_t_seen : Int32) (k_t_seed : Int64) (f_t_now : Nat → Int32) (f_t_covers : Nat → Int32) (f_t_shown : Nat → Int32) (p1 : Int64) (R : Int32 × Int32 × (Nat → Int32) × (Nat → Int32)) (hm : mX11_look k_t_reached f_t_now f_t_covers f_t_shown p1 = some R) : kM l yX11_look wsX11_look { frames := 4, cells := 0, slots := 0, locals := 97 } G cI cZ cE [.ref a_t, .long p1] [(a_t, .inr (8, [.int k_t_knots, .ref a_t_now, .int k_t_readKnots, .ref a_t_text, .int k_t_length, .ref a_t_covers, .int k_t_reached, .ref a_t_order, .ref a_t_way, .ref a_t_tried, .int k_t_acts, .int k_t_next, .ref a_t_row, .ref a_t_lids, .ref a_t_shown, .int k_t_seen, .ref a_t_seenKnot, .ref a_t_seenLid, .ref a_t_seenHad, .long k_t_seed, .ref a_t_isKept, .ref a_t_kept])), (a_t_now, .inl (cI, 100, .inl f_t_now)), (a_t_covers, .inl (cI, 8, .inl f_t_covers)), (a_t_shown, .inl (cI, 8, .inl f_t_shown))] [(a_t, .inr (8, [.int k_t_knots, .ref a_t_now, .int k_t_readKnots, .ref a_t_text, .int k_t_length, .ref a_t_covers, .int R.2.1, .ref a_t_order, .ref a_t_way, .ref a_t_tried, .int k_t_acts, .int k_t_next, .ref a_t_row, .ref a_t_lids, .ref a_t_shown, .int k_t_seen, .ref a_t_seenKnot, .ref a_t_seenLid, .ref a_t_seenHad, .long k_t_seed, .ref a_t_isKept, .ref a_t_kept])), (a_t_now, .inl (cI, 100, .inl f_t_now)), (a_t_covers, .inl (cI, 8, .inl R.2.2.1)), (a_t_shown, .inl (cI, 8, .inl R.2.2.2))] (some (.int R.1)) := by
  refine kM_of cX11_look 5 (some .int) RX11 (by decide) rfl rfl (Nat.le_of_ble_eq_true rfl) ?_
  intro p e s m below meth c A ls X hA hP hD hS hl
  have hx := X.1.1
  have hb := X.1.2.1
  have hts := X.1.2.2.2.2
  have hown := X.1.2.2.2.1
  have hK := X.2.2.2.1
  have l_110 : (.fieldLink RX11 110 "CoverOrderModel" "reached" "I" : Cond).before _ s = true := hts _ (List.mem_of_getElem? (i := 1) (by decide +kernel))
  have i_X11 : ∀ w ∈ u_ws RX11 TX11 22, w ∈ wsX11_look := k_in _ [56, 57, 58, 59, 60, 61, 62, 63, 64, 65, 66, 67, 68, 69, 70, 71, 72, 73, 74, 75, 76, 77] (by decide +kernel)
  have l_38 : (.fieldLink RX11 38 "CoverOrderModel" "shown" "[I" : Cond).before _ s = true := hts _ (List.mem_of_getElem? (i := 2) (by decide +kernel))
  have k_166 : (.constantLong RX11 166 (10) : Cond).before _ s = true := hts _ (List.mem_of_getElem? (i := 3) (by decide +kernel))
  have hl : lv_has ls 5 [(0, .ref a_t), (1, .long p1)] := hl
  rw [mX11_look] at hm
  refine lv_aload_n hx hb dX11_look_0 rfl (lv_at hl 0 rfl) ?_
  refine lv_iconst (v := 0) hx hb dX11_look_1 (by decide) ?_
  obtain ⟨r2, hc2, hm⟩ := kbind hm
  refine kcV (ws1 := [(a_t, .inr (8, [.int k_t_knots, .ref a_t_now, .int k_t_readKnots, .ref a_t_text, .int k_t_length, .ref a_t_covers, .int r2.1, .ref a_t_order, .ref a_t_way, .ref a_t_tried, .int k_t_acts, .int k_t_next, .ref a_t_row, .ref a_t_lids, .ref a_t_shown, .int k_t_seen, .ref a_t_seenKnot, .ref a_t_seenLid, .ref a_t_seenHad, .long k_t_seed, .ref a_t_isKept, .ref a_t_kept])), (a_t_now, .inl (cI, 100, .inl f_t_now)), (a_t_covers, .inl (cI, 8, .inl r2.2)), (a_t_shown, .inl (cI, 8, .inl f_t_shown))]) (st1 := []) X hA (c_X11_findCovers l G cI cZ cE a_t a_t_now a_t_text a_t_covers a_t_order a_t_way a_t_tried a_t_row a_t_lids a_t_shown a_t_seenKnot a_t_seenLid a_t_seenHad a_t_isKept a_t_kept k_t_knots k_t_readKnots k_t_length k_t_reached k_t_acts k_t_next k_t_seen k_t_seed f_t_now f_t_covers 0 r2 hc2) (cwV 1 hts gX11_look_X11_findCovers rfl rfl rfl hd_X11_findCovers ⟨Nat.le_of_ble_eq_true rfl, Nat.le_of_ble_eq_true rfl⟩) 0 8 rfl rfl hl.1 dX11_look_2 hP hD hS [0, 1, 2] rfl rfl rfl rfl rfl [] rfl (Nat.le_of_ble_eq_true rfl) rfl ⟨Nat.zero_le _, Nat.zero_le _⟩ (fun H locs hP hD hS => ?_)
  refine lv_aload_n hx hb dX11_look_5 rfl (lv_at hl 0 rfl) ?_
  refine va_get (D := G) (ci := 8) (v := .int r2.1) (C := RX11) (T := TX11) (N := 22) hx hb hts i_X11 hown hK hP 0 rfl rfl 6 (by decide) l_110 (fun _ h9 => h9) rfl dX11_look_6 ?_
  obtain ⟨r9, hc9, hm⟩ := kbind hm
  refine kcS0 (st1 := [.int r9]) X hA (c_X11_ones l G cI cZ cE r2.1 r9 hc9) (va_cwS 1 hts gX11_look_X11_ones rfl rfl rfl hd_X11_ones ⟨Nat.le_of_ble_eq_true rfl, Nat.le_of_ble_eq_true rfl⟩) hl.1 dX11_look_9 hP hD hS [] rfl rfl rfl [] rfl (Nat.le_of_ble_eq_true rfl) rfl ⟨Nat.zero_le _, Nat.zero_le _⟩ (fun H locs hP hD hS => ?_)
  refine lv_istore_n (lv' := [(3, .int r9), (0, .ref a_t), (1, .long p1)]) hx hb dX11_look_12 rfl hl (by decide) rfl (fun ls hl => ?_)
  refine lv_lload_n hx hb dX11_look_13 rfl (lv_at hl 2 rfl) ?_
  refine lv_lconst (v := 0) hx hb dX11_look_14 (by decide) ?_
  refine lv_iload_n hx hb dX11_look_15 rfl (lv_at hl 0 rfl) ?_
  obtain ⟨r16, hc16, hm⟩ := kbind hm
  refine kcS0 (st1 := [.long r16, .long 0, .long p1]) X hA (c_X11_tenTo l G cI cZ cE r9 r16 hc16) (va_cwS 1 hts gX11_look_X11_tenTo rfl rfl rfl hd_X11_tenTo ⟨Nat.le_of_ble_eq_true rfl, Nat.le_of_ble_eq_true rfl⟩) hl.1 dX11_look_16 hP hD hS [] rfl rfl rfl [.long 0, .long p1] rfl (Nat.le_of_ble_eq_true rfl) rfl ⟨Nat.zero_le _, Nat.zero_le _⟩ (fun H locs hP hD hS => ?_)
  refine lv_lconst (v := 1) hx hb dX11_look_19 (by decide) ?_
  refine lv_lsub hx hb dX11_look_20 ?_
  refine kcS0 (st1 := [.int (bI (mX11_in p1 0 (r16 - 1)))]) X hA (c_X11_in l G cI cZ cE p1 0 (r16 - 1) _ rfl) (va_cwS 3 hts gX11_look_X11_in rfl rfl rfl hd_X11_in ⟨Nat.le_of_ble_eq_true rfl, Nat.le_of_ble_eq_true rfl⟩) hl.1 dX11_look_21 hP hD hS [] rfl rfl rfl [] rfl (Nat.le_of_ble_eq_true rfl) rfl ⟨Nat.zero_le _, Nat.zero_le _⟩ (fun H locs hP hD hS => ?_)
  refine lv_if_ne (tgt := 30) hx hb dX11_look_24 (by decide) (fun c24 => ?_) (fun c24 => ?_)
  · have c24 := kb1 c24
    rw [if_pos c24] at hm
    refine lv_iconst (v := 0) hx hb dX11_look_30 (by decide) ?_
    refine lv_istore (lv' := [(4, .int 0), (3, .int r9), (0, .ref a_t), (1, .long p1)]) hx hb dX11_look_31 hl (by decide) rfl (fun ls hl => ?_)
    have h33 : ∀ (n33 : Nat), ∀ (v33_4 : Int32) (w33_f_t_shown : Nat → Int32) (H : Heap) (locs : List Loc) (ls : Array Slot), va_P G vwCl [(a_t, .inr (8, [.int k_t_knots, .ref a_t_now, .int k_t_readKnots, .ref a_t_text, .int k_t_length, .ref a_t_covers, .int r2.1, .ref a_t_order, .ref a_t_way, .ref a_t_tried, .int k_t_acts, .int k_t_next, .ref a_t_row, .ref a_t_lids, .ref a_t_shown, .int k_t_seen, .ref a_t_seenKnot, .ref a_t_seenLid, .ref a_t_seenHad, .long k_t_seed, .ref a_t_isKept, .ref a_t_kept])), (a_t_now, .inl (cI, 100, .inl f_t_now)), (a_t_covers, .inl (cI, 8, .inl r2.2)), (a_t_shown, .inl (cI, 8, .inl w33_f_t_shown))] H → va_D A [(a_t, .inr (8, [.int k_t_knots, .ref a_t_now, .int k_t_readKnots, .ref a_t_text, .int k_t_length, .ref a_t_covers, .int r2.1, .ref a_t_order, .ref a_t_way, .ref a_t_tried, .int k_t_acts, .int k_t_next, .ref a_t_row, .ref a_t_lids, .ref a_t_shown, .int k_t_seen, .ref a_t_seenKnot, .ref a_t_seenLid, .ref a_t_seenHad, .long k_t_seed, .ref a_t_isKept, .ref a_t_kept])), (a_t_now, .inl (cI, 100, .inl f_t_now)), (a_t_covers, .inl (cI, 8, .inl r2.2)), (a_t_shown, .inl (cI, 8, .inl w33_f_t_shown))] → va_S A s.heap H locs → lv_has ls 5 [(0, .ref a_t), (1, .long p1), (3, .int r9), (4, .int v33_4)] → mX11_look_L33 f_t_now p1 r2 r9 n33 v33_4 w33_f_t_shown = some R → W p l e { frames := 4, cells := 0, slots := 0, locals := 97 } s m ([.ref a_t, .long p1] : List Value).toArray below meth c H locs 0 0 (kQ below G [(a_t, .inr (8, [.int k_t_knots, .ref a_t_now, .int k_t_readKnots, .ref a_t_text, .int k_t_length, .ref a_t_covers, .int R.2.1, .ref a_t_order, .ref a_t_way, .ref a_t_tried, .int k_t_acts, .int k_t_next, .ref a_t_row, .ref a_t_lids, .ref a_t_shown, .int k_t_seen, .ref a_t_seenKnot, .ref a_t_seenLid, .ref a_t_seenHad, .long k_t_seed, .ref a_t_isKept, .ref a_t_kept])), (a_t_now, .inl (cI, 100, .inl f_t_now)), (a_t_covers, .inl (cI, 8, .inl R.2.2.1)), (a_t_shown, .inl (cI, 8, .inl R.2.2.2))] (some (.int R.1)) A ([.ref a_t, .long p1] : List Value).toArray s) (F0 m 33 ls []) := by
      intro n33
      induction n33 with
      | zero => intro v33_4 w33_f_t_shown H locs ls hP hD hS hl hm; rw [mX11_look_L33] at hm; cases hm
      | succ n33 ih33 =>
        intro v33_4 w33_f_t_shown H locs ls hP hD hS hl hm
        rw [mX11_look_L33] at hm
        refine lv_iload hx hb dX11_look_33 (lv_at hl 3 rfl) ?_
        refine lv_iload_n hx hb dX11_look_35 rfl (lv_at hl 2 rfl) ?_
        refine lv_icmp_ge (tgt := 68) hx hb dX11_look_36 (by decide) (fun c36 => ?_) (fun c36 => ?_)
        · rw [if_pos c36] at hm
          refine lv_aload_n hx hb dX11_look_68 rfl (lv_at hl 0 rfl) ?_
          refine lv_iload_n hx hb dX11_look_69 rfl (lv_at hl 2 rfl) ?_
          obtain ⟨r70, hc70, hm⟩ := kbind hm
          refine kcV0 (st1 := [.int r70]) X hA (c_X11_firstWrong l G cI cZ cE a_t a_t_now a_t_text a_t_covers a_t_order a_t_way a_t_tried a_t_row a_t_lids a_t_shown a_t_seenKnot a_t_seenLid a_t_seenHad a_t_isKept a_t_kept k_t_knots k_t_readKnots k_t_length r2.1 k_t_acts k_t_next k_t_seen k_t_seed f_t_now r2.2 w33_f_t_shown r9 r70 hc70) (cwV 1 hts gX11_look_X11_firstWrong rfl rfl rfl hd_X11_firstWrong ⟨Nat.le_of_ble_eq_true rfl, Nat.le_of_ble_eq_true rfl⟩) 0 8 rfl rfl hl.1 dX11_look_70 hP hD hS [0, 1, 2, 3] rfl rfl rfl [] rfl (Nat.le_of_ble_eq_true rfl) rfl ⟨Nat.zero_le _, Nat.zero_le _⟩ (fun H locs hP hD hS => ?_)
          have hm := Option.some.inj hm
          subst hm
          exact k_iret (v := r70) X rfl dX11_look_73 hP hD hS
        · rw [if_neg c36] at hm
          refine lv_aload_n hx hb dX11_look_39 rfl (lv_at hl 0 rfl) ?_
          refine va_get (D := G) (ci := 8) (v := .ref a_t_shown) (C := RX11) (T := TX11) (N := 22) hx hb hts i_X11 hown hK hP 0 rfl rfl 14 (by decide) l_38 (fun _ h9 => h9) rfl dX11_look_40 ?_
          refine lv_iload hx hb dX11_look_43 (lv_at hl 3 rfl) ?_
          refine lv_lload_n hx hb dX11_look_45 rfl (lv_at hl 1 rfl) ?_
          refine lv_iload_n hx hb dX11_look_46 rfl (lv_at hl 2 rfl) ?_
          refine lv_iconst (v := 1) hx hb dX11_look_47 (by decide) ?_
          refine lv_isub hx hb dX11_look_48 ?_
          refine lv_iload hx hb dX11_look_49 (lv_at hl 3 rfl) ?_
          refine lv_isub hx hb dX11_look_51 ?_
          obtain ⟨r52, hc52, hm⟩ := kbind hm
          refine kcS0 (st1 := [.long r52, .long p1, .int v33_4, .ref a_t_shown]) X hA (c_X11_tenTo l G cI cZ cE ((r9 - 1) - v33_4) r52 hc52) (va_cwS 1 hts gX11_look_X11_tenTo rfl rfl rfl hd_X11_tenTo ⟨Nat.le_of_ble_eq_true rfl, Nat.le_of_ble_eq_true rfl⟩) hl.1 dX11_look_52 hP hD hS [] rfl rfl rfl [.long p1, .int v33_4, .ref a_t_shown] rfl (Nat.le_of_ble_eq_true rfl) rfl ⟨Nat.zero_le _, Nat.zero_le _⟩ (fun H locs hP hD hS => ?_)
          obtain ⟨g55, hm⟩ := gd_some hm
          refine lv_ldiv hx hb dX11_look_55 (kneL_ok g55) ?_
          refine lv_ldc2 (v := 10) hx hb hown k_166 dX11_look_56 ?_
          refine lv_lrem hx hb dX11_look_59 (by decide) ?_
          refine lv_l2i (v := ((p1 / r52) - (p1 / r52) / 10 * 10 : Int64).toInt32) hx hb dX11_look_60 rfl ?_
          obtain ⟨g61, hm⟩ := gd_some hm
          refine va_iast hx hb hK hP hD hS 3 0 rfl rfl (kin_ok g61) dX11_look_61 (fun H locs hP hD hS => ?_)
          have hP : va_P G vwCl [(a_t, .inr (8, [.int k_t_knots, .ref a_t_now, .int k_t_readKnots, .ref a_t_text, .int k_t_length, .ref a_t_covers, .int r2.1, .ref a_t_order, .ref a_t_way, .ref a_t_tried, .int k_t_acts, .int k_t_next, .ref a_t_row, .ref a_t_lids, .ref a_t_shown, .int k_t_seen, .ref a_t_seenKnot, .ref a_t_seenLid, .ref a_t_seenHad, .long k_t_seed, .ref a_t_isKept, .ref a_t_kept])), (a_t_now, .inl (cI, 100, .inl f_t_now)), (a_t_covers, .inl (cI, 8, .inl r2.2)), (a_t_shown, .inl (cI, 8, .inl (upd w33_f_t_shown (Int32.toNatClampNeg v33_4) (((p1 / r52) - (p1 / r52) / 10 * 10 : Int64).toInt32))))] H := hP
          have hD : va_D A [(a_t, .inr (8, [.int k_t_knots, .ref a_t_now, .int k_t_readKnots, .ref a_t_text, .int k_t_length, .ref a_t_covers, .int r2.1, .ref a_t_order, .ref a_t_way, .ref a_t_tried, .int k_t_acts, .int k_t_next, .ref a_t_row, .ref a_t_lids, .ref a_t_shown, .int k_t_seen, .ref a_t_seenKnot, .ref a_t_seenLid, .ref a_t_seenHad, .long k_t_seed, .ref a_t_isKept, .ref a_t_kept])), (a_t_now, .inl (cI, 100, .inl f_t_now)), (a_t_covers, .inl (cI, 8, .inl r2.2)), (a_t_shown, .inl (cI, 8, .inl (upd w33_f_t_shown (Int32.toNatClampNeg v33_4) (((p1 / r52) - (p1 / r52) / 10 * 10 : Int64).toInt32))))] := hD
          refine lv_iinc (v := v33_4 + 1) (lv' := [(4, .int (v33_4 + 1)), (0, .ref a_t), (1, .long p1), (3, .int r9)]) hx hb dX11_look_62 hl (k := 3) rfl rfl (by decide) rfl (fun ls hl => ?_)
          refine lv_goto (tgt := 33) hx hb dX11_look_65 (by decide) ?_
          exact ih33 (v33_4 + 1) (upd w33_f_t_shown (Int32.toNatClampNeg v33_4) (((p1 / r52) - (p1 / r52) / 10 * 10 : Int64).toInt32)) _ _ _ hP hD hS (lv_sub hl [1, 2, 3, 0] rfl) hm
    exact h33 kFU 0 f_t_shown _ _ _ hP hD hS (lv_sub hl [2, 3, 1, 0] rfl) hm
  · have c24 := kb0 c24
    rw [if_neg c24] at hm
    refine lv_bipush (v := (-2)) hx hb dX11_look_27 (by decide) ?_
    have hm := Option.some.inj hm
    subst hm
    exact k_iret (v := (-2)) X rfl dX11_look_29 hP hD hS
theorem hd_X11_look : yX11_look.cls = RX11 ∧ yX11_look.cls ≠ "java/lang/invoke/MethodHandle" ∧ yX11_look.cls ≠ "java/lang/invoke/VarHandle" ∧ (parseMethodDescriptor yX11_look.desc).map (fun d => d.parameters.length) = some 1 := by decide +kernel
/-! CoverOrderModel tryThing -/
set_option maxRecDepth 100000 in
set_option maxHeartbeats 4000000 in
theorem c_X11_tryThing (l : Launch) (G : va_G) (cI cZ cE : ClassId) (a_t a_t_now a_t_text a_t_covers a_t_order a_t_way a_t_tried a_t_row a_t_lids a_t_shown a_t_seenKnot a_t_seenLid a_t_seenHad a_t_isKept a_t_kept : Nat) (k_t_knots : Int32) (k_t_readKnots : Int32) (k_t_length : Int32) (k_t_reached : Int32) (k_t_acts : Int32) (k_t_next : Int32) (k_t_seen : Int32) (k_t_seed : Int64) (f_t_now : Nat → Int32) (f_t_covers : Nat → Int32) (f_t_order : Nat → Int32) (f_t_way : Nat → Int32) (f_t_tried : Nat → Int32) (p1 : Int32) (p2 : Int32) (p3 : Int32) (R : Bool × Int32 × (Nat → Int32) × (Nat → Int32) × (Nat → Int32) × (Nat → Int32) × (Nat → Int32)) (hm : mX11_tryThing k_t_knots k_t_reached f_t_now f_t_covers f_t_order f_t_way f_t_tried p1 p2 p3 = some R) : kM l yX11_tryThing wsX11_tryThing { frames := 3, cells := 0, slots := 0, locals := 77 } G cI cZ cE [.ref a_t, .int p1, .int p2, .int p3] [(a_t, .inr (8, [.int k_t_knots, .ref a_t_now, .int k_t_readKnots, .ref a_t_text, .int k_t_length, .ref a_t_covers, .int k_t_reached, .ref a_t_order, .ref a_t_way, .ref a_t_tried, .int k_t_acts, .int k_t_next, .ref a_t_row, .ref a_t_lids, .ref a_t_shown, .int k_t_seen, .ref a_t_seenKnot, .ref a_t_seenLid, .ref a_t_seenHad, .long k_t_seed, .ref a_t_isKept, .ref a_t_kept])), (a_t_now, .inl (cI, 100, .inl f_t_now)), (a_t_covers, .inl (cI, 8, .inl f_t_covers)), (a_t_order, .inl (cI, 8, .inl f_t_order)), (a_t_way, .inl (cI, 8, .inl f_t_way)), (a_t_tried, .inl (cI, 8, .inl f_t_tried))] [(a_t, .inr (8, [.int k_t_knots, .ref a_t_now, .int k_t_readKnots, .ref a_t_text, .int k_t_length, .ref a_t_covers, .int R.2.1, .ref a_t_order, .ref a_t_way, .ref a_t_tried, .int k_t_acts, .int k_t_next, .ref a_t_row, .ref a_t_lids, .ref a_t_shown, .int k_t_seen, .ref a_t_seenKnot, .ref a_t_seenLid, .ref a_t_seenHad, .long k_t_seed, .ref a_t_isKept, .ref a_t_kept])), (a_t_now, .inl (cI, 100, .inl R.2.2.1)), (a_t_covers, .inl (cI, 8, .inl R.2.2.2.1)), (a_t_order, .inl (cI, 8, .inl R.2.2.2.2.1)), (a_t_way, .inl (cI, 8, .inl R.2.2.2.2.2.1)), (a_t_tried, .inl (cI, 8, .inl R.2.2.2.2.2.2))] (some (.int (bI R.1))) := by
  refine kM_of cX11_tryThing 6 (some .boolean) RX11 (by decide) rfl rfl (Nat.le_of_ble_eq_true rfl) ?_
  intro p e s m below meth c A ls X hA hP hD hS hl
  have hx := X.1.1
  have hb := X.1.2.1
  have hts := X.1.2.2.2.2
  have hown := X.1.2.2.2.1
  have hK := X.2.2.2.1
  have l_20 : (.fieldLink RX11 20 "CoverOrderModel" "covers" "[I" : Cond).before _ s = true := hts _ (List.mem_of_getElem? (i := 1) (by decide +kernel))
  have i_X11 : ∀ w ∈ u_ws RX11 TX11 22, w ∈ wsX11_tryThing := k_in _ [74, 75, 76, 77, 78, 79, 80, 81, 82, 83, 84, 85, 86, 87, 88, 89, 90, 91, 92, 93, 94, 95] (by decide +kernel)
  have l_110 : (.fieldLink RX11 110 "CoverOrderModel" "reached" "I" : Cond).before _ s = true := hts _ (List.mem_of_getElem? (i := 2) (by decide +kernel))
  have hl : lv_has ls 6 [(0, .ref a_t), (1, .int p1), (2, .int p2), (3, .int p3)] := hl
  rw [mX11_tryThing] at hm
  refine lv_aload_n hx hb dX11_tryThing_0 rfl (lv_at hl 0 rfl) ?_
  refine lv_iload_n hx hb dX11_tryThing_1 rfl (lv_at hl 2 rfl) ?_
  refine kcV0 (st1 := [.int (bI (mX11_isKnot k_t_knots p2))]) X hA (c_X11_isKnot l G cI cZ cE a_t a_t_now a_t_text a_t_covers a_t_order a_t_way a_t_tried a_t_row a_t_lids a_t_shown a_t_seenKnot a_t_seenLid a_t_seenHad a_t_isKept a_t_kept k_t_knots k_t_readKnots k_t_length k_t_reached k_t_acts k_t_next k_t_seen k_t_seed p2 _ rfl) (cwV 1 hts gX11_tryThing_X11_isKnot rfl rfl rfl hd_X11_isKnot ⟨Nat.le_of_ble_eq_true rfl, Nat.le_of_ble_eq_true rfl⟩) 0 8 rfl rfl hl.1 dX11_tryThing_2 hP hD hS [0] rfl rfl rfl [] rfl (Nat.le_of_ble_eq_true rfl) rfl ⟨Nat.zero_le _, Nat.zero_le _⟩ (fun H locs hP hD hS => ?_)
  have h21 : ∀ (s21_0 : Bool) (H : Heap) (locs : List Loc) (ls : Array Slot), va_P G vwCl [(a_t, .inr (8, [.int k_t_knots, .ref a_t_now, .int k_t_readKnots, .ref a_t_text, .int k_t_length, .ref a_t_covers, .int k_t_reached, .ref a_t_order, .ref a_t_way, .ref a_t_tried, .int k_t_acts, .int k_t_next, .ref a_t_row, .ref a_t_lids, .ref a_t_shown, .int k_t_seen, .ref a_t_seenKnot, .ref a_t_seenLid, .ref a_t_seenHad, .long k_t_seed, .ref a_t_isKept, .ref a_t_kept])), (a_t_now, .inl (cI, 100, .inl f_t_now)), (a_t_covers, .inl (cI, 8, .inl f_t_covers)), (a_t_order, .inl (cI, 8, .inl f_t_order)), (a_t_way, .inl (cI, 8, .inl f_t_way)), (a_t_tried, .inl (cI, 8, .inl f_t_tried))] H → va_D A [(a_t, .inr (8, [.int k_t_knots, .ref a_t_now, .int k_t_readKnots, .ref a_t_text, .int k_t_length, .ref a_t_covers, .int k_t_reached, .ref a_t_order, .ref a_t_way, .ref a_t_tried, .int k_t_acts, .int k_t_next, .ref a_t_row, .ref a_t_lids, .ref a_t_shown, .int k_t_seen, .ref a_t_seenKnot, .ref a_t_seenLid, .ref a_t_seenHad, .long k_t_seed, .ref a_t_isKept, .ref a_t_kept])), (a_t_now, .inl (cI, 100, .inl f_t_now)), (a_t_covers, .inl (cI, 8, .inl f_t_covers)), (a_t_order, .inl (cI, 8, .inl f_t_order)), (a_t_way, .inl (cI, 8, .inl f_t_way)), (a_t_tried, .inl (cI, 8, .inl f_t_tried))] → va_S A s.heap H locs → lv_has ls 6 [(0, .ref a_t), (1, .int p1), (2, .int p2), (3, .int p3)] → mX11_tryThing_J21 k_t_knots k_t_reached f_t_now f_t_covers f_t_order f_t_way f_t_tried p1 p2 p3 s21_0 = some R → W p l e { frames := 3, cells := 0, slots := 0, locals := 77 } s m ([.ref a_t, .int p1, .int p2, .int p3] : List Value).toArray below meth c H locs 0 0 (kQ below G [(a_t, .inr (8, [.int k_t_knots, .ref a_t_now, .int k_t_readKnots, .ref a_t_text, .int k_t_length, .ref a_t_covers, .int R.2.1, .ref a_t_order, .ref a_t_way, .ref a_t_tried, .int k_t_acts, .int k_t_next, .ref a_t_row, .ref a_t_lids, .ref a_t_shown, .int k_t_seen, .ref a_t_seenKnot, .ref a_t_seenLid, .ref a_t_seenHad, .long k_t_seed, .ref a_t_isKept, .ref a_t_kept])), (a_t_now, .inl (cI, 100, .inl R.2.2.1)), (a_t_covers, .inl (cI, 8, .inl R.2.2.2.1)), (a_t_order, .inl (cI, 8, .inl R.2.2.2.2.1)), (a_t_way, .inl (cI, 8, .inl R.2.2.2.2.2.1)), (a_t_tried, .inl (cI, 8, .inl R.2.2.2.2.2.2))] (some (.int (bI R.1))) A ([.ref a_t, .int p1, .int p2, .int p3] : List Value).toArray s) (F0 m 21 ls [.int (bI s21_0)]) := by
    intro s21_0 H locs ls hP hD hS hl hm
    rw [mX11_tryThing_J21] at hm
    refine lv_istore (lv' := [(4, .int (bI s21_0)), (0, .ref a_t), (1, .int p1), (2, .int p2), (3, .int p3)]) hx hb dX11_tryThing_21 hl (by decide) rfl (fun ls hl => ?_)
    refine lv_iload_n hx hb dX11_tryThing_23 rfl (lv_at hl 2 rfl) ?_
    refine lv_iconst (v := 1) hx hb dX11_tryThing_24 (by decide) ?_
    refine lv_icmp_ne (tgt := 82) hx hb dX11_tryThing_25 (by decide) (fun c25 => ?_) (fun c25 => ?_)
    · rw [if_neg c25] at hm
      refine lv_iload_n hx hb dX11_tryThing_82 rfl (lv_at hl 2 rfl) ?_
      refine lv_iconst (v := 2) hx hb dX11_tryThing_83 (by decide) ?_
      refine lv_icmp_ne (tgt := 131) hx hb dX11_tryThing_84 (by decide) (fun c84 => ?_) (fun c84 => ?_)
      · rw [if_neg c84] at hm
        refine lv_aload_n hx hb dX11_tryThing_131 rfl (lv_at hl 1 rfl) ?_
        refine lv_iconst (v := 1) hx hb dX11_tryThing_132 (by decide) ?_
        obtain ⟨r133, hc133, hm⟩ := kbind hm
        refine kcV (ws1 := [(a_t, .inr (8, [.int k_t_knots, .ref a_t_now, .int k_t_readKnots, .ref a_t_text, .int k_t_length, .ref a_t_covers, .int r133.1, .ref a_t_order, .ref a_t_way, .ref a_t_tried, .int k_t_acts, .int k_t_next, .ref a_t_row, .ref a_t_lids, .ref a_t_shown, .int k_t_seen, .ref a_t_seenKnot, .ref a_t_seenLid, .ref a_t_seenHad, .long k_t_seed, .ref a_t_isKept, .ref a_t_kept])), (a_t_now, .inl (cI, 100, .inl f_t_now)), (a_t_covers, .inl (cI, 8, .inl r133.2)), (a_t_order, .inl (cI, 8, .inl f_t_order)), (a_t_way, .inl (cI, 8, .inl f_t_way)), (a_t_tried, .inl (cI, 8, .inl f_t_tried))]) (st1 := []) X hA (c_X11_findCovers l G cI cZ cE a_t a_t_now a_t_text a_t_covers a_t_order a_t_way a_t_tried a_t_row a_t_lids a_t_shown a_t_seenKnot a_t_seenLid a_t_seenHad a_t_isKept a_t_kept k_t_knots k_t_readKnots k_t_length k_t_reached k_t_acts k_t_next k_t_seen k_t_seed f_t_now f_t_covers 1 r133 hc133) (cwV 1 hts gX11_tryThing_X11_findCovers rfl rfl rfl hd_X11_findCovers ⟨Nat.le_of_ble_eq_true rfl, Nat.le_of_ble_eq_true rfl⟩) 0 8 rfl rfl hl.1 dX11_tryThing_133 hP hD hS [0, 1, 2] rfl rfl rfl rfl rfl [] rfl (Nat.le_of_ble_eq_true rfl) rfl ⟨Nat.zero_le _, Nat.zero_le _⟩ (fun H locs hP hD hS => ?_)
        refine lv_aload_n hx hb dX11_tryThing_136 rfl (lv_at hl 1 rfl) ?_
        refine lv_iconst (v := 1) hx hb dX11_tryThing_137 (by decide) ?_
        obtain ⟨r138, hc138, hm⟩ := kbind hm
        refine kcV (ws1 := [(a_t, .inr (8, [.int k_t_knots, .ref a_t_now, .int k_t_readKnots, .ref a_t_text, .int k_t_length, .ref a_t_covers, .int r133.1, .ref a_t_order, .ref a_t_way, .ref a_t_tried, .int k_t_acts, .int k_t_next, .ref a_t_row, .ref a_t_lids, .ref a_t_shown, .int k_t_seen, .ref a_t_seenKnot, .ref a_t_seenLid, .ref a_t_seenHad, .long k_t_seed, .ref a_t_isKept, .ref a_t_kept])), (a_t_now, .inl (cI, 100, .inl f_t_now)), (a_t_covers, .inl (cI, 8, .inl r133.2)), (a_t_order, .inl (cI, 8, .inl r138.1)), (a_t_way, .inl (cI, 8, .inl r138.2.1)), (a_t_tried, .inl (cI, 8, .inl r138.2.2))]) (st1 := []) X hA (c_X11_walk l G cI cZ cE a_t a_t_now a_t_text a_t_covers a_t_order a_t_way a_t_tried a_t_row a_t_lids a_t_shown a_t_seenKnot a_t_seenLid a_t_seenHad a_t_isKept a_t_kept k_t_knots k_t_readKnots k_t_length r133.1 k_t_acts k_t_next k_t_seen k_t_seed f_t_now f_t_order f_t_way f_t_tried 1 r138 hc138) (cwV 1 hts gX11_tryThing_X11_walk rfl rfl rfl hd_X11_walk ⟨Nat.le_of_ble_eq_true rfl, Nat.le_of_ble_eq_true rfl⟩) 0 8 rfl rfl hl.1 dX11_tryThing_138 hP hD hS [0, 1, 3, 4, 5] rfl rfl rfl rfl rfl [] rfl (Nat.le_of_ble_eq_true rfl) rfl ⟨Nat.zero_le _, Nat.zero_le _⟩ (fun H locs hP hD hS => ?_)
        refine lv_iload_n hx hb dX11_tryThing_141 rfl (lv_at hl 2 rfl) ?_
        rcases Classical.em (p1 = 3) with c142_0 | c142_0
        · rw [if_pos c142_0] at hm
          refine lv_tableIn (off := 38) (tgt := 180) hx hb dX11_tryThing_142 (by rw [c142_0]; decide) (by rw [c142_0]; decide) (by rw [c142_0]; decide) (by decide) ?_
          refine lv_iload hx hb dX11_tryThing_180 (lv_at hl 0 rfl) ?_
          refine lv_if_eq (tgt := 202) hx hb dX11_tryThing_182 (by decide) (fun c182 => ?_) (fun c182 => ?_)
          · have c182 := kb0 c182
            rw [if_neg c182] at hm
            refine lv_iconst (v := 0) hx hb dX11_tryThing_202 (by decide) ?_
            have hm := Option.some.inj hm
            subst hm
            exact k_zret (v := false) X rfl dX11_tryThing_203 hP hD hS
          · have c182 := kb1 c182
            rw [if_pos c182] at hm
            refine lv_aload_n hx hb dX11_tryThing_185 rfl (lv_at hl 1 rfl) ?_
            refine va_get (D := G) (ci := 8) (v := .ref a_t_covers) (C := RX11) (T := TX11) (N := 22) hx hb hts i_X11 hown hK hP 0 rfl rfl 5 (by decide) l_20 (fun _ h9 => h9) rfl dX11_tryThing_186 ?_
            refine lv_iload_n hx hb dX11_tryThing_189 rfl (lv_at hl 4 rfl) ?_
            obtain ⟨g190, hm⟩ := gd_some hm
            refine va_iald hx hb hK hP 2 0 rfl rfl (kin_ok g190) dX11_tryThing_190 ?_
            refine lv_iload_n hx hb dX11_tryThing_191 rfl (lv_at hl 3 rfl) ?_
            refine kcS0 (st1 := [.int (bI (mX11_has (r133.2 (Int32.toNatClampNeg p3)) p2))]) X hA (c_X11_has l G cI cZ cE (r133.2 (Int32.toNatClampNeg p3)) p2 _ rfl) (va_cwS 2 hts gX11_tryThing_X11_has rfl rfl rfl hd_X11_has ⟨Nat.le_of_ble_eq_true rfl, Nat.le_of_ble_eq_true rfl⟩) hl.1 dX11_tryThing_192 hP hD hS [] rfl rfl rfl [] rfl (Nat.le_of_ble_eq_true rfl) rfl ⟨Nat.zero_le _, Nat.zero_le _⟩ (fun H locs hP hD hS => ?_)
            refine lv_if_eq (tgt := 202) hx hb dX11_tryThing_195 (by decide) (fun c195 => ?_) (fun c195 => ?_)
            · have c195 := kb0 c195
              rw [if_neg c195] at hm
              refine lv_iconst (v := 0) hx hb dX11_tryThing_202 (by decide) ?_
              have hm := Option.some.inj hm
              subst hm
              exact k_zret (v := false) X rfl dX11_tryThing_203 hP hD hS
            · have c195 := kb1 c195
              rw [if_pos c195] at hm
              refine lv_iconst (v := 1) hx hb dX11_tryThing_198 (by decide) ?_
              refine lv_goto (tgt := 203) hx hb dX11_tryThing_199 (by decide) ?_
              have hm := Option.some.inj hm
              subst hm
              exact k_zret (v := true) X rfl dX11_tryThing_203 hP hD hS
        rw [if_neg c142_0] at hm
        rcases Classical.em (p1 = 4) with c142_1 | c142_1
        · rw [if_pos c142_1] at hm
          refine lv_tableIn (off := 62) (tgt := 204) hx hb dX11_tryThing_142 (by rw [c142_1]; decide) (by rw [c142_1]; decide) (by rw [c142_1]; decide) (by decide) ?_
          refine lv_iload hx hb dX11_tryThing_204 (lv_at hl 0 rfl) ?_
          refine lv_if_eq (tgt := 222) hx hb dX11_tryThing_206 (by decide) (fun c206 => ?_) (fun c206 => ?_)
          · have c206 := kb0 c206
            rw [if_neg c206] at hm
            refine lv_iconst (v := 0) hx hb dX11_tryThing_222 (by decide) ?_
            have hm := Option.some.inj hm
            subst hm
            exact k_zret (v := false) X rfl dX11_tryThing_223 hP hD hS
          · have c206 := kb1 c206
            rw [if_pos c206] at hm
            refine lv_aload_n hx hb dX11_tryThing_209 rfl (lv_at hl 1 rfl) ?_
            refine lv_iload_n hx hb dX11_tryThing_210 rfl (lv_at hl 4 rfl) ?_
            obtain ⟨r211, hc211, hm⟩ := kbind hm
            refine kcV0 (st1 := [.int r211]) X hA (c_X11_lidOf l G cI cZ cE a_t a_t_now a_t_text a_t_covers a_t_order a_t_way a_t_tried a_t_row a_t_lids a_t_shown a_t_seenKnot a_t_seenLid a_t_seenHad a_t_isKept a_t_kept k_t_knots k_t_readKnots k_t_length r133.1 k_t_acts k_t_next k_t_seen k_t_seed r133.2 p3 r211 hc211) (cwV 1 hts gX11_tryThing_X11_lidOf rfl rfl rfl hd_X11_lidOf ⟨Nat.le_of_ble_eq_true rfl, Nat.le_of_ble_eq_true rfl⟩) 0 8 rfl rfl hl.1 dX11_tryThing_211 hP hD hS [0, 2] rfl rfl rfl [] rfl (Nat.le_of_ble_eq_true rfl) rfl ⟨Nat.zero_le _, Nat.zero_le _⟩ (fun H locs hP hD hS => ?_)
            refine lv_iload_n hx hb dX11_tryThing_214 rfl (lv_at hl 3 rfl) ?_
            refine lv_icmp_ne (tgt := 222) hx hb dX11_tryThing_215 (by decide) (fun c215 => ?_) (fun c215 => ?_)
            · rw [if_neg c215] at hm
              refine lv_iconst (v := 0) hx hb dX11_tryThing_222 (by decide) ?_
              have hm := Option.some.inj hm
              subst hm
              exact k_zret (v := false) X rfl dX11_tryThing_223 hP hD hS
            · rw [if_pos c215] at hm
              refine lv_iconst (v := 1) hx hb dX11_tryThing_218 (by decide) ?_
              refine lv_goto (tgt := 223) hx hb dX11_tryThing_219 (by decide) ?_
              have hm := Option.some.inj hm
              subst hm
              exact k_zret (v := true) X rfl dX11_tryThing_223 hP hD hS
        rw [if_neg c142_1] at hm
        rcases Classical.em (p1 = 5) with c142_2 | c142_2
        · rw [if_pos c142_2] at hm
          refine lv_tableIn (off := 82) (tgt := 224) hx hb dX11_tryThing_142 (by rw [c142_2]; decide) (by rw [c142_2]; decide) (by rw [c142_2]; decide) (by decide) ?_
          refine lv_aload_n hx hb dX11_tryThing_224 rfl (lv_at hl 1 rfl) ?_
          refine lv_iload_n hx hb dX11_tryThing_225 rfl (lv_at hl 3 rfl) ?_
          refine kcV0 (st1 := [.int (bI (mX11_isKnot k_t_knots p2))]) X hA (c_X11_isKnot l G cI cZ cE a_t a_t_now a_t_text a_t_covers a_t_order a_t_way a_t_tried a_t_row a_t_lids a_t_shown a_t_seenKnot a_t_seenLid a_t_seenHad a_t_isKept a_t_kept k_t_knots k_t_readKnots k_t_length r133.1 k_t_acts k_t_next k_t_seen k_t_seed p2 _ rfl) (cwV 1 hts gX11_tryThing_X11_isKnot rfl rfl rfl hd_X11_isKnot ⟨Nat.le_of_ble_eq_true rfl, Nat.le_of_ble_eq_true rfl⟩) 0 8 rfl rfl hl.1 dX11_tryThing_226 hP hD hS [0] rfl rfl rfl [] rfl (Nat.le_of_ble_eq_true rfl) rfl ⟨Nat.zero_le _, Nat.zero_le _⟩ (fun H locs hP hD hS => ?_)
          refine lv_if_eq (tgt := 245) hx hb dX11_tryThing_229 (by decide) (fun c229 => ?_) (fun c229 => ?_)
          · have c229 := kb0 c229
            rw [if_neg c229] at hm
            refine lv_iconst (v := 0) hx hb dX11_tryThing_245 (by decide) ?_
            have hm := Option.some.inj hm
            subst hm
            exact k_zret (v := false) X rfl dX11_tryThing_246 hP hD hS
          · have c229 := kb1 c229
            rw [if_pos c229] at hm
            refine lv_aload_n hx hb dX11_tryThing_232 rfl (lv_at hl 1 rfl) ?_
            refine lv_iload_n hx hb dX11_tryThing_233 rfl (lv_at hl 3 rfl) ?_
            obtain ⟨r234, hc234, hm⟩ := kbind hm
            refine kcV0 (st1 := [.int r234]) X hA (c_X11_depthOf l G cI cZ cE a_t a_t_now a_t_text a_t_covers a_t_order a_t_way a_t_tried a_t_row a_t_lids a_t_shown a_t_seenKnot a_t_seenLid a_t_seenHad a_t_isKept a_t_kept k_t_knots k_t_readKnots k_t_length r133.1 k_t_acts k_t_next k_t_seen k_t_seed r133.2 p2 r234 hc234) (cwV 1 hts gX11_tryThing_X11_depthOf rfl rfl rfl hd_X11_depthOf ⟨Nat.le_of_ble_eq_true rfl, Nat.le_of_ble_eq_true rfl⟩) 0 8 rfl rfl hl.1 dX11_tryThing_234 hP hD hS [0, 2] rfl rfl rfl [] rfl (Nat.le_of_ble_eq_true rfl) rfl ⟨Nat.zero_le _, Nat.zero_le _⟩ (fun H locs hP hD hS => ?_)
            refine lv_iload_n hx hb dX11_tryThing_237 rfl (lv_at hl 4 rfl) ?_
            refine lv_icmp_ne (tgt := 245) hx hb dX11_tryThing_238 (by decide) (fun c238 => ?_) (fun c238 => ?_)
            · rw [if_neg c238] at hm
              refine lv_iconst (v := 0) hx hb dX11_tryThing_245 (by decide) ?_
              have hm := Option.some.inj hm
              subst hm
              exact k_zret (v := false) X rfl dX11_tryThing_246 hP hD hS
            · rw [if_pos c238] at hm
              refine lv_iconst (v := 1) hx hb dX11_tryThing_241 (by decide) ?_
              refine lv_goto (tgt := 246) hx hb dX11_tryThing_242 (by decide) ?_
              have hm := Option.some.inj hm
              subst hm
              exact k_zret (v := true) X rfl dX11_tryThing_246 hP hD hS
        rw [if_neg c142_2] at hm
        rcases Classical.em (p1 = 6) with c142_3 | c142_3
        · rw [if_pos c142_3] at hm
          refine lv_tableIn (off := 105) (tgt := 247) hx hb dX11_tryThing_142 (by rw [c142_3]; decide) (by rw [c142_3]; decide) (by rw [c142_3]; decide) (by decide) ?_
          refine lv_iload hx hb dX11_tryThing_247 (lv_at hl 0 rfl) ?_
          refine lv_if_eq (tgt := 266) hx hb dX11_tryThing_249 (by decide) (fun c249 => ?_) (fun c249 => ?_)
          · have c249 := kb0 c249
            rw [if_neg c249] at hm
            refine lv_iconst (v := 0) hx hb dX11_tryThing_266 (by decide) ?_
            have hm := Option.some.inj hm
            subst hm
            exact k_zret (v := false) X rfl dX11_tryThing_267 hP hD hS
          · have c249 := kb1 c249
            rw [if_pos c249] at hm
            refine lv_aload_n hx hb dX11_tryThing_252 rfl (lv_at hl 1 rfl) ?_
            refine lv_iconst (v := 1) hx hb dX11_tryThing_253 (by decide) ?_
            refine lv_iload_n hx hb dX11_tryThing_254 rfl (lv_at hl 4 rfl) ?_
            obtain ⟨r255, hc255, hm⟩ := kbind hm
            refine kcV0 (st1 := [.int r255]) X hA (c_X11_halfOf l G cI cZ cE a_t a_t_now a_t_text a_t_covers a_t_order a_t_way a_t_tried a_t_row a_t_lids a_t_shown a_t_seenKnot a_t_seenLid a_t_seenHad a_t_isKept a_t_kept k_t_knots k_t_readKnots k_t_length r133.1 k_t_acts k_t_next k_t_seen k_t_seed f_t_now r138.1 1 p3 r255 hc255) (cwV 2 hts gX11_tryThing_X11_halfOf rfl rfl rfl hd_X11_halfOf ⟨Nat.le_of_ble_eq_true rfl, Nat.le_of_ble_eq_true rfl⟩) 0 8 rfl rfl hl.1 dX11_tryThing_255 hP hD hS [0, 1, 3] rfl rfl rfl [] rfl (Nat.le_of_ble_eq_true rfl) rfl ⟨Nat.zero_le _, Nat.zero_le _⟩ (fun H locs hP hD hS => ?_)
            refine lv_iload_n hx hb dX11_tryThing_258 rfl (lv_at hl 3 rfl) ?_
            refine lv_icmp_ne (tgt := 266) hx hb dX11_tryThing_259 (by decide) (fun c259 => ?_) (fun c259 => ?_)
            · rw [if_neg c259] at hm
              refine lv_iconst (v := 0) hx hb dX11_tryThing_266 (by decide) ?_
              have hm := Option.some.inj hm
              subst hm
              exact k_zret (v := false) X rfl dX11_tryThing_267 hP hD hS
            · rw [if_pos c259] at hm
              refine lv_iconst (v := 1) hx hb dX11_tryThing_262 (by decide) ?_
              refine lv_goto (tgt := 267) hx hb dX11_tryThing_263 (by decide) ?_
              have hm := Option.some.inj hm
              subst hm
              exact k_zret (v := true) X rfl dX11_tryThing_267 hP hD hS
        rw [if_neg c142_3] at hm
        rcases Classical.em (p1 = 7) with c142_4 | c142_4
        · rw [if_pos c142_4] at hm
          refine lv_tableIn (off := 126) (tgt := 268) hx hb dX11_tryThing_142 (by rw [c142_4]; decide) (by rw [c142_4]; decide) (by rw [c142_4]; decide) (by decide) ?_
          refine lv_iload hx hb dX11_tryThing_268 (lv_at hl 0 rfl) ?_
          refine lv_if_eq (tgt := 301) hx hb dX11_tryThing_270 (by decide) (fun c270 => ?_) (fun c270 => ?_)
          · have c270 := kb0 c270
            rw [if_neg c270] at hm
            refine lv_iconst (v := 0) hx hb dX11_tryThing_301 (by decide) ?_
            have hm := Option.some.inj hm
            subst hm
            exact k_zret (v := false) X rfl dX11_tryThing_302 hP hD hS
          · have c270 := kb1 c270
            rw [if_pos c270] at hm
            refine lv_aload_n hx hb dX11_tryThing_273 rfl (lv_at hl 1 rfl) ?_
            refine va_get (D := G) (ci := 8) (v := .int r133.1) (C := RX11) (T := TX11) (N := 22) hx hb hts i_X11 hown hK hP 0 rfl rfl 6 (by decide) l_110 (fun _ h9 => h9) rfl dX11_tryThing_274 ?_
            refine lv_iload_n hx hb dX11_tryThing_277 rfl (lv_at hl 3 rfl) ?_
            refine kcS0 (st1 := [.int (bI (mX11_has r133.1 p2))]) X hA (c_X11_has l G cI cZ cE r133.1 p2 _ rfl) (va_cwS 2 hts gX11_tryThing_X11_has rfl rfl rfl hd_X11_has ⟨Nat.le_of_ble_eq_true rfl, Nat.le_of_ble_eq_true rfl⟩) hl.1 dX11_tryThing_278 hP hD hS [] rfl rfl rfl [] rfl (Nat.le_of_ble_eq_true rfl) rfl ⟨Nat.zero_le _, Nat.zero_le _⟩ (fun H locs hP hD hS => ?_)
            refine lv_if_eq (tgt := 301) hx hb dX11_tryThing_281 (by decide) (fun c281 => ?_) (fun c281 => ?_)
            · have c281 := kb0 c281
              rw [if_neg c281] at hm
              refine lv_iconst (v := 0) hx hb dX11_tryThing_301 (by decide) ?_
              have hm := Option.some.inj hm
              subst hm
              exact k_zret (v := false) X rfl dX11_tryThing_302 hP hD hS
            · have c281 := kb1 c281
              rw [if_pos c281] at hm
              refine lv_aload_n hx hb dX11_tryThing_284 rfl (lv_at hl 1 rfl) ?_
              refine lv_iconst (v := 1) hx hb dX11_tryThing_285 (by decide) ?_
              refine lv_iload_n hx hb dX11_tryThing_286 rfl (lv_at hl 3 rfl) ?_
              obtain ⟨r287, hc287, hm⟩ := kbind hm
              refine kcV0 (st1 := [.int r287]) X hA (c_X11_rimOf l G cI cZ cE a_t a_t_now a_t_text a_t_covers a_t_order a_t_way a_t_tried a_t_row a_t_lids a_t_shown a_t_seenKnot a_t_seenLid a_t_seenHad a_t_isKept a_t_kept k_t_knots k_t_readKnots k_t_length r133.1 k_t_acts k_t_next k_t_seen k_t_seed f_t_now r133.2 1 p2 r287 hc287) (cwV 2 hts gX11_tryThing_X11_rimOf rfl rfl rfl hd_X11_rimOf ⟨Nat.le_of_ble_eq_true rfl, Nat.le_of_ble_eq_true rfl⟩) 0 8 rfl rfl hl.1 dX11_tryThing_287 hP hD hS [0, 1, 2] rfl rfl rfl [] rfl (Nat.le_of_ble_eq_true rfl) rfl ⟨Nat.zero_le _, Nat.zero_le _⟩ (fun H locs hP hD hS => ?_)
              refine lv_iload_n hx hb dX11_tryThing_290 rfl (lv_at hl 4 rfl) ?_
              refine kcS0 (st1 := [.int (bI (mX11_has r287 p3))]) X hA (c_X11_has l G cI cZ cE r287 p3 _ rfl) (va_cwS 2 hts gX11_tryThing_X11_has rfl rfl rfl hd_X11_has ⟨Nat.le_of_ble_eq_true rfl, Nat.le_of_ble_eq_true rfl⟩) hl.1 dX11_tryThing_291 hP hD hS [] rfl rfl rfl [] rfl (Nat.le_of_ble_eq_true rfl) rfl ⟨Nat.zero_le _, Nat.zero_le _⟩ (fun H locs hP hD hS => ?_)
              refine lv_if_eq (tgt := 301) hx hb dX11_tryThing_294 (by decide) (fun c294 => ?_) (fun c294 => ?_)
              · have c294 := kb0 c294
                rw [if_neg c294] at hm
                refine lv_iconst (v := 0) hx hb dX11_tryThing_301 (by decide) ?_
                have hm := Option.some.inj hm
                subst hm
                exact k_zret (v := false) X rfl dX11_tryThing_302 hP hD hS
              · have c294 := kb1 c294
                rw [if_pos c294] at hm
                refine lv_iconst (v := 1) hx hb dX11_tryThing_297 (by decide) ?_
                refine lv_goto (tgt := 302) hx hb dX11_tryThing_298 (by decide) ?_
                have hm := Option.some.inj hm
                subst hm
                exact k_zret (v := true) X rfl dX11_tryThing_302 hP hD hS
        rw [if_neg c142_4] at hm
        rcases Classical.em (p1 = 8) with c142_5 | c142_5
        · rw [if_pos c142_5] at hm
          refine lv_tableIn (off := 161) (tgt := 303) hx hb dX11_tryThing_142 (by rw [c142_5]; decide) (by rw [c142_5]; decide) (by rw [c142_5]; decide) (by decide) ?_
          refine lv_iload_n hx hb dX11_tryThing_303 rfl (lv_at hl 3 rfl) ?_
          refine lv_if_ne (tgt := 322) hx hb dX11_tryThing_304 (by decide) (fun c304 => ?_) (fun c304 => ?_)
          · rw [if_neg c304] at hm
            refine lv_iconst (v := 0) hx hb dX11_tryThing_322 (by decide) ?_
            have hm := Option.some.inj hm
            subst hm
            exact k_zret (v := false) X rfl dX11_tryThing_323 hP hD hS
          · rw [if_pos c304] at hm
            refine lv_aload_n hx hb dX11_tryThing_307 rfl (lv_at hl 1 rfl) ?_
            refine va_get (D := G) (ci := 8) (v := .int r133.1) (C := RX11) (T := TX11) (N := 22) hx hb hts i_X11 hown hK hP 0 rfl rfl 6 (by decide) l_110 (fun _ h9 => h9) rfl dX11_tryThing_308 ?_
            obtain ⟨r311, hc311, hm⟩ := kbind hm
            refine kcS0 (st1 := [.int r311]) X hA (c_X11_ones l G cI cZ cE r133.1 r311 hc311) (va_cwS 1 hts gX11_tryThing_X11_ones rfl rfl rfl hd_X11_ones ⟨Nat.le_of_ble_eq_true rfl, Nat.le_of_ble_eq_true rfl⟩) hl.1 dX11_tryThing_311 hP hD hS [] rfl rfl rfl [] rfl (Nat.le_of_ble_eq_true rfl) rfl ⟨Nat.zero_le _, Nat.zero_le _⟩ (fun H locs hP hD hS => ?_)
            refine lv_iload_n hx hb dX11_tryThing_314 rfl (lv_at hl 4 rfl) ?_
            refine lv_icmp_lt (tgt := 322) hx hb dX11_tryThing_315 (by decide) (fun c315 => ?_) (fun c315 => ?_)
            · rw [if_pos c315] at hm
              refine lv_iconst (v := 0) hx hb dX11_tryThing_322 (by decide) ?_
              have hm := Option.some.inj hm
              subst hm
              exact k_zret (v := false) X rfl dX11_tryThing_323 hP hD hS
            · rw [if_neg c315] at hm
              refine lv_iconst (v := 1) hx hb dX11_tryThing_318 (by decide) ?_
              refine lv_goto (tgt := 323) hx hb dX11_tryThing_319 (by decide) ?_
              have hm := Option.some.inj hm
              subst hm
              exact k_zret (v := true) X rfl dX11_tryThing_323 hP hD hS
        rw [if_neg c142_5] at hm
        refine k_tableDef (tgt := 324) hx hb dX11_tryThing_142 (by
          have z0 : Int32.toInt p1 ≠ 3 := fun h => c142_0 (Int32.toInt_inj.mp (h.trans (by decide)))
          have z1 : Int32.toInt p1 ≠ 4 := fun h => c142_1 (Int32.toInt_inj.mp (h.trans (by decide)))
          have z2 : Int32.toInt p1 ≠ 5 := fun h => c142_2 (Int32.toInt_inj.mp (h.trans (by decide)))
          have z3 : Int32.toInt p1 ≠ 6 := fun h => c142_3 (Int32.toInt_inj.mp (h.trans (by decide)))
          have z4 : Int32.toInt p1 ≠ 7 := fun h => c142_4 (Int32.toInt_inj.mp (h.trans (by decide)))
          have z5 : Int32.toInt p1 ≠ 8 := fun h => c142_5 (Int32.toInt_inj.mp (h.trans (by decide)))
          rcases (show Int32.toInt p1 < 3 ∨ 8 < Int32.toInt p1 by omega) with h | h
          · exact Or.inl h
          · exact Or.inr (Or.inl h)) (by decide) ?_
        refine lv_iconst (v := 0) hx hb dX11_tryThing_324 (by decide) ?_
        have hm := Option.some.inj hm
        subst hm
        exact k_zret (v := false) X rfl dX11_tryThing_325 hP hD hS
      · rw [if_pos c84] at hm
        refine lv_iload hx hb dX11_tryThing_87 (lv_at hl 0 rfl) ?_
        have h109 : ∀ (s109_0 : Bool) (H : Heap) (locs : List Loc) (ls : Array Slot), va_P G vwCl [(a_t, .inr (8, [.int k_t_knots, .ref a_t_now, .int k_t_readKnots, .ref a_t_text, .int k_t_length, .ref a_t_covers, .int k_t_reached, .ref a_t_order, .ref a_t_way, .ref a_t_tried, .int k_t_acts, .int k_t_next, .ref a_t_row, .ref a_t_lids, .ref a_t_shown, .int k_t_seen, .ref a_t_seenKnot, .ref a_t_seenLid, .ref a_t_seenHad, .long k_t_seed, .ref a_t_isKept, .ref a_t_kept])), (a_t_now, .inl (cI, 100, .inl f_t_now)), (a_t_covers, .inl (cI, 8, .inl f_t_covers)), (a_t_order, .inl (cI, 8, .inl f_t_order)), (a_t_way, .inl (cI, 8, .inl f_t_way)), (a_t_tried, .inl (cI, 8, .inl f_t_tried))] H → va_D A [(a_t, .inr (8, [.int k_t_knots, .ref a_t_now, .int k_t_readKnots, .ref a_t_text, .int k_t_length, .ref a_t_covers, .int k_t_reached, .ref a_t_order, .ref a_t_way, .ref a_t_tried, .int k_t_acts, .int k_t_next, .ref a_t_row, .ref a_t_lids, .ref a_t_shown, .int k_t_seen, .ref a_t_seenKnot, .ref a_t_seenLid, .ref a_t_seenHad, .long k_t_seed, .ref a_t_isKept, .ref a_t_kept])), (a_t_now, .inl (cI, 100, .inl f_t_now)), (a_t_covers, .inl (cI, 8, .inl f_t_covers)), (a_t_order, .inl (cI, 8, .inl f_t_order)), (a_t_way, .inl (cI, 8, .inl f_t_way)), (a_t_tried, .inl (cI, 8, .inl f_t_tried))] → va_S A s.heap H locs → lv_has ls 6 [(0, .ref a_t), (2, .int p2), (3, .int p3)] → mX11_tryThing_J109 k_t_reached f_t_now f_t_covers f_t_order f_t_way f_t_tried p2 p3 s109_0 = some R → W p l e { frames := 3, cells := 0, slots := 0, locals := 77 } s m ([.ref a_t, .int p1, .int p2, .int p3] : List Value).toArray below meth c H locs 0 0 (kQ below G [(a_t, .inr (8, [.int k_t_knots, .ref a_t_now, .int k_t_readKnots, .ref a_t_text, .int k_t_length, .ref a_t_covers, .int R.2.1, .ref a_t_order, .ref a_t_way, .ref a_t_tried, .int k_t_acts, .int k_t_next, .ref a_t_row, .ref a_t_lids, .ref a_t_shown, .int k_t_seen, .ref a_t_seenKnot, .ref a_t_seenLid, .ref a_t_seenHad, .long k_t_seed, .ref a_t_isKept, .ref a_t_kept])), (a_t_now, .inl (cI, 100, .inl R.2.2.1)), (a_t_covers, .inl (cI, 8, .inl R.2.2.2.1)), (a_t_order, .inl (cI, 8, .inl R.2.2.2.2.1)), (a_t_way, .inl (cI, 8, .inl R.2.2.2.2.2.1)), (a_t_tried, .inl (cI, 8, .inl R.2.2.2.2.2.2))] (some (.int (bI R.1))) A ([.ref a_t, .int p1, .int p2, .int p3] : List Value).toArray s) (F0 m 109 ls [.int (bI s109_0)]) := by
          intro s109_0 H locs ls hP hD hS hl hm
          rw [mX11_tryThing_J109] at hm
          refine lv_istore (lv' := [(5, .int (bI s109_0)), (0, .ref a_t), (2, .int p2), (3, .int p3)]) hx hb dX11_tryThing_109 hl (by decide) rfl (fun ls hl => ?_)
          refine lv_iload hx hb dX11_tryThing_111 (lv_at hl 0 rfl) ?_
          refine lv_if_eq (tgt := 128) hx hb dX11_tryThing_113 (by decide) (fun c113 => ?_) (fun c113 => ?_)
          · have c113 := kb0 c113
            rw [if_neg c113] at hm
            refine lv_iload hx hb dX11_tryThing_128 (lv_at hl 0 rfl) ?_
            have hm := Option.some.inj hm
            subst hm
            exact k_zret (v := s109_0) X rfl dX11_tryThing_130 hP hD hS
          · have c113 := kb1 c113
            rw [if_pos c113] at hm
            refine lv_aload_n hx hb dX11_tryThing_116 rfl (lv_at hl 1 rfl) ?_
            refine lv_iconst (v := 1) hx hb dX11_tryThing_117 (by decide) ?_
            refine lv_aload_n hx hb dX11_tryThing_118 rfl (lv_at hl 1 rfl) ?_
            refine lv_iconst (v := 1) hx hb dX11_tryThing_119 (by decide) ?_
            refine lv_iload_n hx hb dX11_tryThing_120 rfl (lv_at hl 2 rfl) ?_
            refine lv_iload_n hx hb dX11_tryThing_121 rfl (lv_at hl 3 rfl) ?_
            obtain ⟨r122, hc122, hm⟩ := kbind hm
            refine kcV0 (st1 := [.int r122, .int 1, .ref a_t]) X hA (c_X11_find l G cI cZ cE a_t a_t_now a_t_text a_t_covers a_t_order a_t_way a_t_tried a_t_row a_t_lids a_t_shown a_t_seenKnot a_t_seenLid a_t_seenHad a_t_isKept a_t_kept k_t_knots k_t_readKnots k_t_length k_t_reached k_t_acts k_t_next k_t_seen k_t_seed f_t_now 1 p2 p3 r122 hc122) (cwV 3 hts gX11_tryThing_X11_find rfl rfl rfl hd_X11_find ⟨Nat.le_of_ble_eq_true rfl, Nat.le_of_ble_eq_true rfl⟩) 0 8 rfl rfl hl.1 dX11_tryThing_122 hP hD hS [0, 1] rfl rfl rfl [.int 1, .ref a_t] rfl (Nat.le_of_ble_eq_true rfl) rfl ⟨Nat.zero_le _, Nat.zero_le _⟩ (fun H locs hP hD hS => ?_)
            obtain ⟨r125, hc125, hm⟩ := kbind hm
            refine kcV (ws1 := [(a_t, .inr (8, [.int k_t_knots, .ref a_t_now, .int k_t_readKnots, .ref a_t_text, .int k_t_length, .ref a_t_covers, .int k_t_reached, .ref a_t_order, .ref a_t_way, .ref a_t_tried, .int k_t_acts, .int k_t_next, .ref a_t_row, .ref a_t_lids, .ref a_t_shown, .int k_t_seen, .ref a_t_seenKnot, .ref a_t_seenLid, .ref a_t_seenHad, .long k_t_seed, .ref a_t_isKept, .ref a_t_kept])), (a_t_now, .inl (cI, 100, .inl r125)), (a_t_covers, .inl (cI, 8, .inl f_t_covers)), (a_t_order, .inl (cI, 8, .inl f_t_order)), (a_t_way, .inl (cI, 8, .inl f_t_way)), (a_t_tried, .inl (cI, 8, .inl f_t_tried))]) (st1 := []) X hA (c_X11_deleteOn l G cI cZ cE a_t a_t_now a_t_text a_t_covers a_t_order a_t_way a_t_tried a_t_row a_t_lids a_t_shown a_t_seenKnot a_t_seenLid a_t_seenHad a_t_isKept a_t_kept k_t_knots k_t_readKnots k_t_length k_t_reached k_t_acts k_t_next k_t_seen k_t_seed f_t_now 1 r122 r125 hc125) (cwV 2 hts gX11_tryThing_X11_deleteOn rfl rfl rfl hd_X11_deleteOn ⟨Nat.le_of_ble_eq_true rfl, Nat.le_of_ble_eq_true rfl⟩) 0 8 rfl rfl hl.1 dX11_tryThing_125 hP hD hS [0, 1] rfl rfl rfl rfl rfl [] rfl (Nat.le_of_ble_eq_true rfl) rfl ⟨Nat.zero_le _, Nat.zero_le _⟩ (fun H locs hP hD hS => ?_)
            refine lv_iload hx hb dX11_tryThing_128 (lv_at hl 0 rfl) ?_
            have hm := Option.some.inj hm
            subst hm
            exact k_zret (v := s109_0) X rfl dX11_tryThing_130 hP hD hS
        refine lv_if_eq (tgt := 108) hx hb dX11_tryThing_89 (by decide) (fun c89 => ?_) (fun c89 => ?_)
        · have c89 := kb0 c89
          rw [if_neg c89] at hm
          refine lv_iconst (v := 0) hx hb dX11_tryThing_108 (by decide) ?_
          exact h109 false _ _ _ hP hD hS (lv_sub hl [1, 3, 4] rfl) hm
        · have c89 := kb1 c89
          rw [if_pos c89] at hm
          refine lv_aload_n hx hb dX11_tryThing_92 rfl (lv_at hl 1 rfl) ?_
          refine lv_iconst (v := 1) hx hb dX11_tryThing_93 (by decide) ?_
          refine lv_iload_n hx hb dX11_tryThing_94 rfl (lv_at hl 3 rfl) ?_
          refine lv_iload_n hx hb dX11_tryThing_95 rfl (lv_at hl 4 rfl) ?_
          obtain ⟨r96, hc96, hm⟩ := kbind hm
          refine kcV0 (st1 := [.int r96]) X hA (c_X11_find l G cI cZ cE a_t a_t_now a_t_text a_t_covers a_t_order a_t_way a_t_tried a_t_row a_t_lids a_t_shown a_t_seenKnot a_t_seenLid a_t_seenHad a_t_isKept a_t_kept k_t_knots k_t_readKnots k_t_length k_t_reached k_t_acts k_t_next k_t_seen k_t_seed f_t_now 1 p2 p3 r96 hc96) (cwV 3 hts gX11_tryThing_X11_find rfl rfl rfl hd_X11_find ⟨Nat.le_of_ble_eq_true rfl, Nat.le_of_ble_eq_true rfl⟩) 0 8 rfl rfl hl.1 dX11_tryThing_96 hP hD hS [0, 1] rfl rfl rfl [] rfl (Nat.le_of_ble_eq_true rfl) rfl ⟨Nat.zero_le _, Nat.zero_le _⟩ (fun H locs hP hD hS => ?_)
          refine lv_bipush (v := (-9)) hx hb dX11_tryThing_99 (by decide) ?_
          refine lv_icmp_eq (tgt := 108) hx hb dX11_tryThing_101 (by decide) (fun c101 => ?_) (fun c101 => ?_)
          · rw [if_pos c101] at hm
            refine lv_iconst (v := 0) hx hb dX11_tryThing_108 (by decide) ?_
            exact h109 false _ _ _ hP hD hS (lv_sub hl [1, 3, 4] rfl) hm
          · rw [if_neg c101] at hm
            refine lv_iconst (v := 1) hx hb dX11_tryThing_104 (by decide) ?_
            refine lv_goto (tgt := 109) hx hb dX11_tryThing_105 (by decide) ?_
            exact h109 true _ _ _ hP hD hS (lv_sub hl [1, 3, 4] rfl) hm
    · rw [if_pos c25] at hm
      refine lv_iload hx hb dX11_tryThing_28 (lv_at hl 0 rfl) ?_
      have h65 : ∀ (s65_0 : Bool) (H : Heap) (locs : List Loc) (ls : Array Slot), va_P G vwCl [(a_t, .inr (8, [.int k_t_knots, .ref a_t_now, .int k_t_readKnots, .ref a_t_text, .int k_t_length, .ref a_t_covers, .int k_t_reached, .ref a_t_order, .ref a_t_way, .ref a_t_tried, .int k_t_acts, .int k_t_next, .ref a_t_row, .ref a_t_lids, .ref a_t_shown, .int k_t_seen, .ref a_t_seenKnot, .ref a_t_seenLid, .ref a_t_seenHad, .long k_t_seed, .ref a_t_isKept, .ref a_t_kept])), (a_t_now, .inl (cI, 100, .inl f_t_now)), (a_t_covers, .inl (cI, 8, .inl f_t_covers)), (a_t_order, .inl (cI, 8, .inl f_t_order)), (a_t_way, .inl (cI, 8, .inl f_t_way)), (a_t_tried, .inl (cI, 8, .inl f_t_tried))] H → va_D A [(a_t, .inr (8, [.int k_t_knots, .ref a_t_now, .int k_t_readKnots, .ref a_t_text, .int k_t_length, .ref a_t_covers, .int k_t_reached, .ref a_t_order, .ref a_t_way, .ref a_t_tried, .int k_t_acts, .int k_t_next, .ref a_t_row, .ref a_t_lids, .ref a_t_shown, .int k_t_seen, .ref a_t_seenKnot, .ref a_t_seenLid, .ref a_t_seenHad, .long k_t_seed, .ref a_t_isKept, .ref a_t_kept])), (a_t_now, .inl (cI, 100, .inl f_t_now)), (a_t_covers, .inl (cI, 8, .inl f_t_covers)), (a_t_order, .inl (cI, 8, .inl f_t_order)), (a_t_way, .inl (cI, 8, .inl f_t_way)), (a_t_tried, .inl (cI, 8, .inl f_t_tried))] → va_S A s.heap H locs → lv_has ls 6 [(0, .ref a_t), (2, .int p2), (3, .int p3)] → mX11_tryThing_J65 k_t_reached f_t_now f_t_covers f_t_order f_t_way f_t_tried p2 p3 s65_0 = some R → W p l e { frames := 3, cells := 0, slots := 0, locals := 77 } s m ([.ref a_t, .int p1, .int p2, .int p3] : List Value).toArray below meth c H locs 0 0 (kQ below G [(a_t, .inr (8, [.int k_t_knots, .ref a_t_now, .int k_t_readKnots, .ref a_t_text, .int k_t_length, .ref a_t_covers, .int R.2.1, .ref a_t_order, .ref a_t_way, .ref a_t_tried, .int k_t_acts, .int k_t_next, .ref a_t_row, .ref a_t_lids, .ref a_t_shown, .int k_t_seen, .ref a_t_seenKnot, .ref a_t_seenLid, .ref a_t_seenHad, .long k_t_seed, .ref a_t_isKept, .ref a_t_kept])), (a_t_now, .inl (cI, 100, .inl R.2.2.1)), (a_t_covers, .inl (cI, 8, .inl R.2.2.2.1)), (a_t_order, .inl (cI, 8, .inl R.2.2.2.2.1)), (a_t_way, .inl (cI, 8, .inl R.2.2.2.2.2.1)), (a_t_tried, .inl (cI, 8, .inl R.2.2.2.2.2.2))] (some (.int (bI R.1))) A ([.ref a_t, .int p1, .int p2, .int p3] : List Value).toArray s) (F0 m 65 ls [.int (bI s65_0)]) := by
        intro s65_0 H locs ls hP hD hS hl hm
        rw [mX11_tryThing_J65] at hm
        refine lv_istore (lv' := [(5, .int (bI s65_0)), (0, .ref a_t), (2, .int p2), (3, .int p3)]) hx hb dX11_tryThing_65 hl (by decide) rfl (fun ls hl => ?_)
        refine lv_iload hx hb dX11_tryThing_67 (lv_at hl 0 rfl) ?_
        refine lv_if_eq (tgt := 79) hx hb dX11_tryThing_69 (by decide) (fun c69 => ?_) (fun c69 => ?_)
        · have c69 := kb0 c69
          rw [if_neg c69] at hm
          refine lv_iload hx hb dX11_tryThing_79 (lv_at hl 0 rfl) ?_
          have hm := Option.some.inj hm
          subst hm
          exact k_zret (v := s65_0) X rfl dX11_tryThing_81 hP hD hS
        · have c69 := kb1 c69
          rw [if_pos c69] at hm
          refine lv_aload_n hx hb dX11_tryThing_72 rfl (lv_at hl 1 rfl) ?_
          refine lv_iconst (v := 1) hx hb dX11_tryThing_73 (by decide) ?_
          refine lv_iload_n hx hb dX11_tryThing_74 rfl (lv_at hl 2 rfl) ?_
          refine lv_iload_n hx hb dX11_tryThing_75 rfl (lv_at hl 3 rfl) ?_
          obtain ⟨r76, hc76, hm⟩ := kbind hm
          refine kcV (ws1 := [(a_t, .inr (8, [.int k_t_knots, .ref a_t_now, .int k_t_readKnots, .ref a_t_text, .int k_t_length, .ref a_t_covers, .int k_t_reached, .ref a_t_order, .ref a_t_way, .ref a_t_tried, .int k_t_acts, .int k_t_next, .ref a_t_row, .ref a_t_lids, .ref a_t_shown, .int k_t_seen, .ref a_t_seenKnot, .ref a_t_seenLid, .ref a_t_seenHad, .long k_t_seed, .ref a_t_isKept, .ref a_t_kept])), (a_t_now, .inl (cI, 100, .inl r76)), (a_t_covers, .inl (cI, 8, .inl f_t_covers)), (a_t_order, .inl (cI, 8, .inl f_t_order)), (a_t_way, .inl (cI, 8, .inl f_t_way)), (a_t_tried, .inl (cI, 8, .inl f_t_tried))]) (st1 := []) X hA (c_X11_insertOn l G cI cZ cE a_t a_t_now a_t_text a_t_covers a_t_order a_t_way a_t_tried a_t_row a_t_lids a_t_shown a_t_seenKnot a_t_seenLid a_t_seenHad a_t_isKept a_t_kept k_t_knots k_t_readKnots k_t_length k_t_reached k_t_acts k_t_next k_t_seen k_t_seed f_t_now 1 p2 p3 r76 hc76) (cwV 3 hts gX11_tryThing_X11_insertOn rfl rfl rfl hd_X11_insertOn ⟨Nat.le_of_ble_eq_true rfl, Nat.le_of_ble_eq_true rfl⟩) 0 8 rfl rfl hl.1 dX11_tryThing_76 hP hD hS [0, 1] rfl rfl rfl rfl rfl [] rfl (Nat.le_of_ble_eq_true rfl) rfl ⟨Nat.zero_le _, Nat.zero_le _⟩ (fun H locs hP hD hS => ?_)
          refine lv_iload hx hb dX11_tryThing_79 (lv_at hl 0 rfl) ?_
          have hm := Option.some.inj hm
          subst hm
          exact k_zret (v := s65_0) X rfl dX11_tryThing_81 hP hD hS
      refine lv_if_eq (tgt := 64) hx hb dX11_tryThing_30 (by decide) (fun c30 => ?_) (fun c30 => ?_)
      · have c30 := kb0 c30
        rw [if_neg c30] at hm
        refine lv_iconst (v := 0) hx hb dX11_tryThing_64 (by decide) ?_
        exact h65 false _ _ _ hP hD hS (lv_sub hl [1, 3, 4] rfl) hm
      · have c30 := kb1 c30
        rw [if_pos c30] at hm
        refine lv_iload_n hx hb dX11_tryThing_33 rfl (lv_at hl 3 rfl) ?_
        refine lv_iload_n hx hb dX11_tryThing_34 rfl (lv_at hl 4 rfl) ?_
        refine lv_icmp_eq (tgt := 64) hx hb dX11_tryThing_35 (by decide) (fun c35 => ?_) (fun c35 => ?_)
        · rw [if_pos c35] at hm
          refine lv_iconst (v := 0) hx hb dX11_tryThing_64 (by decide) ?_
          exact h65 false _ _ _ hP hD hS (lv_sub hl [1, 3, 4] rfl) hm
        · rw [if_neg c35] at hm
          refine lv_aload_n hx hb dX11_tryThing_38 rfl (lv_at hl 1 rfl) ?_
          refine lv_iconst (v := 1) hx hb dX11_tryThing_39 (by decide) ?_
          refine lv_iload_n hx hb dX11_tryThing_40 rfl (lv_at hl 3 rfl) ?_
          refine lv_iload_n hx hb dX11_tryThing_41 rfl (lv_at hl 4 rfl) ?_
          obtain ⟨r42, hc42, hm⟩ := kbind hm
          refine kcV0 (st1 := [.int r42]) X hA (c_X11_find l G cI cZ cE a_t a_t_now a_t_text a_t_covers a_t_order a_t_way a_t_tried a_t_row a_t_lids a_t_shown a_t_seenKnot a_t_seenLid a_t_seenHad a_t_isKept a_t_kept k_t_knots k_t_readKnots k_t_length k_t_reached k_t_acts k_t_next k_t_seen k_t_seed f_t_now 1 p2 p3 r42 hc42) (cwV 3 hts gX11_tryThing_X11_find rfl rfl rfl hd_X11_find ⟨Nat.le_of_ble_eq_true rfl, Nat.le_of_ble_eq_true rfl⟩) 0 8 rfl rfl hl.1 dX11_tryThing_42 hP hD hS [0, 1] rfl rfl rfl [] rfl (Nat.le_of_ble_eq_true rfl) rfl ⟨Nat.zero_le _, Nat.zero_le _⟩ (fun H locs hP hD hS => ?_)
          refine lv_bipush (v := (-9)) hx hb dX11_tryThing_45 (by decide) ?_
          refine lv_icmp_ne (tgt := 64) hx hb dX11_tryThing_47 (by decide) (fun c47 => ?_) (fun c47 => ?_)
          · rw [if_neg c47] at hm
            refine lv_iconst (v := 0) hx hb dX11_tryThing_64 (by decide) ?_
            exact h65 false _ _ _ hP hD hS (lv_sub hl [1, 3, 4] rfl) hm
          · rw [if_pos c47] at hm
            refine lv_aload_n hx hb dX11_tryThing_50 rfl (lv_at hl 1 rfl) ?_
            refine lv_iconst (v := 1) hx hb dX11_tryThing_51 (by decide) ?_
            obtain ⟨r52, hc52, hm⟩ := kbind hm
            refine kcV0 (st1 := [.int r52]) X hA (c_X11_many l G cI cZ cE a_t a_t_now a_t_text a_t_covers a_t_order a_t_way a_t_tried a_t_row a_t_lids a_t_shown a_t_seenKnot a_t_seenLid a_t_seenHad a_t_isKept a_t_kept k_t_knots k_t_readKnots k_t_length k_t_reached k_t_acts k_t_next k_t_seen k_t_seed f_t_now 1 r52 hc52) (cwV 1 hts gX11_tryThing_X11_many rfl rfl rfl hd_X11_many ⟨Nat.le_of_ble_eq_true rfl, Nat.le_of_ble_eq_true rfl⟩) 0 8 rfl rfl hl.1 dX11_tryThing_52 hP hD hS [0, 1] rfl rfl rfl [] rfl (Nat.le_of_ble_eq_true rfl) rfl ⟨Nat.zero_le _, Nat.zero_le _⟩ (fun H locs hP hD hS => ?_)
            refine lv_bipush (v := 24) hx hb dX11_tryThing_55 (by decide) ?_
            refine lv_icmp_ge (tgt := 64) hx hb dX11_tryThing_57 (by decide) (fun c57 => ?_) (fun c57 => ?_)
            · rw [if_pos c57] at hm
              refine lv_iconst (v := 0) hx hb dX11_tryThing_64 (by decide) ?_
              exact h65 false _ _ _ hP hD hS (lv_sub hl [1, 3, 4] rfl) hm
            · rw [if_neg c57] at hm
              refine lv_iconst (v := 1) hx hb dX11_tryThing_60 (by decide) ?_
              refine lv_goto (tgt := 65) hx hb dX11_tryThing_61 (by decide) ?_
              exact h65 true _ _ _ hP hD hS (lv_sub hl [1, 3, 4] rfl) hm
  refine lv_if_eq (tgt := 20) hx hb dX11_tryThing_5 (by decide) (fun c5 => ?_) (fun c5 => ?_)
  · have c5 := kb0 c5
    rw [if_neg c5] at hm
    refine lv_iconst (v := 0) hx hb dX11_tryThing_20 (by decide) ?_
    exact h21 false _ _ _ hP hD hS (lv_sub hl [0, 1, 2, 3] rfl) hm
  · have c5 := kb1 c5
    rw [if_pos c5] at hm
    refine lv_aload_n hx hb dX11_tryThing_8 rfl (lv_at hl 0 rfl) ?_
    refine lv_iload_n hx hb dX11_tryThing_9 rfl (lv_at hl 3 rfl) ?_
    refine kcV0 (st1 := [.int (bI (mX11_isKnot k_t_knots p3))]) X hA (c_X11_isKnot l G cI cZ cE a_t a_t_now a_t_text a_t_covers a_t_order a_t_way a_t_tried a_t_row a_t_lids a_t_shown a_t_seenKnot a_t_seenLid a_t_seenHad a_t_isKept a_t_kept k_t_knots k_t_readKnots k_t_length k_t_reached k_t_acts k_t_next k_t_seen k_t_seed p3 _ rfl) (cwV 1 hts gX11_tryThing_X11_isKnot rfl rfl rfl hd_X11_isKnot ⟨Nat.le_of_ble_eq_true rfl, Nat.le_of_ble_eq_true rfl⟩) 0 8 rfl rfl hl.1 dX11_tryThing_10 hP hD hS [0] rfl rfl rfl [] rfl (Nat.le_of_ble_eq_true rfl) rfl ⟨Nat.zero_le _, Nat.zero_le _⟩ (fun H locs hP hD hS => ?_)
    refine lv_if_eq (tgt := 20) hx hb dX11_tryThing_13 (by decide) (fun c13 => ?_) (fun c13 => ?_)
    · have c13 := kb0 c13
      rw [if_neg c13] at hm
      refine lv_iconst (v := 0) hx hb dX11_tryThing_20 (by decide) ?_
      exact h21 false _ _ _ hP hD hS (lv_sub hl [0, 1, 2, 3] rfl) hm
    · have c13 := kb1 c13
      rw [if_pos c13] at hm
      refine lv_iconst (v := 1) hx hb dX11_tryThing_16 (by decide) ?_
      refine lv_goto (tgt := 21) hx hb dX11_tryThing_17 (by decide) ?_
      exact h21 true _ _ _ hP hD hS (lv_sub hl [0, 1, 2, 3] rfl) hm
theorem hd_X11_tryThing : yX11_tryThing.cls = RX11 ∧ yX11_tryThing.cls ≠ "java/lang/invoke/MethodHandle" ∧ yX11_tryThing.cls ≠ "java/lang/invoke/VarHandle" ∧ (parseMethodDescriptor yX11_tryThing.desc).map (fun d => d.parameters.length) = some 3 := by decide +kernel
/-! CoverOrderModel judge -/
set_option maxRecDepth 100000 in
set_option maxHeartbeats 4000000 in
theorem c_X11_judge (l : Launch) (G : va_G) (cI cZ cE : ClassId) (a_t a_t_now a_t_text a_t_covers a_t_order a_t_way a_t_tried a_t_row a_t_lids a_t_shown a_t_seenKnot a_t_seenLid a_t_seenHad a_t_isKept a_t_kept : Nat) (k_t_knots : Int32) (k_t_readKnots : Int32) (k_t_length : Int32) (k_t_reached : Int32) (k_t_acts : Int32) (k_t_next : Int32) (k_t_seen : Int32) (k_t_seed : Int64) (f_t_now : Nat → Int32) (f_t_covers : Nat → Int32) (f_t_order : Nat → Int32) (f_t_way : Nat → Int32) (f_t_tried : Nat → Int32) (p1 : Int32) (p2 : Int64) (R : Int32 × Int32 × (Nat → Int32) × (Nat → Int32) × (Nat → Int32) × (Nat → Int32) × (Nat → Int32)) (hm : mX11_judge k_t_knots k_t_reached f_t_now f_t_covers f_t_order f_t_way f_t_tried p1 p2 = some R) : kM l yX11_judge wsX11_judge { frames := 4, cells := 0, slots := 0, locals := 102 } G cI cZ cE [.ref a_t, .int p1, .long p2] [(a_t, .inr (8, [.int k_t_knots, .ref a_t_now, .int k_t_readKnots, .ref a_t_text, .int k_t_length, .ref a_t_covers, .int k_t_reached, .ref a_t_order, .ref a_t_way, .ref a_t_tried, .int k_t_acts, .int k_t_next, .ref a_t_row, .ref a_t_lids, .ref a_t_shown, .int k_t_seen, .ref a_t_seenKnot, .ref a_t_seenLid, .ref a_t_seenHad, .long k_t_seed, .ref a_t_isKept, .ref a_t_kept])), (a_t_now, .inl (cI, 100, .inl f_t_now)), (a_t_covers, .inl (cI, 8, .inl f_t_covers)), (a_t_order, .inl (cI, 8, .inl f_t_order)), (a_t_way, .inl (cI, 8, .inl f_t_way)), (a_t_tried, .inl (cI, 8, .inl f_t_tried))] [(a_t, .inr (8, [.int k_t_knots, .ref a_t_now, .int k_t_readKnots, .ref a_t_text, .int k_t_length, .ref a_t_covers, .int R.2.1, .ref a_t_order, .ref a_t_way, .ref a_t_tried, .int k_t_acts, .int k_t_next, .ref a_t_row, .ref a_t_lids, .ref a_t_shown, .int k_t_seen, .ref a_t_seenKnot, .ref a_t_seenLid, .ref a_t_seenHad, .long k_t_seed, .ref a_t_isKept, .ref a_t_kept])), (a_t_now, .inl (cI, 100, .inl R.2.2.1)), (a_t_covers, .inl (cI, 8, .inl R.2.2.2.1)), (a_t_order, .inl (cI, 8, .inl R.2.2.2.2.1)), (a_t_way, .inl (cI, 8, .inl R.2.2.2.2.2.1)), (a_t_tried, .inl (cI, 8, .inl R.2.2.2.2.2.2))] (some (.int R.1)) := by
  refine kM_of cX11_judge 6 (some .int) RX11 (by decide) rfl rfl (Nat.le_of_ble_eq_true rfl) ?_
  intro p e s m below meth c A ls X hA hP hD hS hl
  have hx := X.1.1
  have hb := X.1.2.1
  have hts := X.1.2.2.2.2
  have hown := X.1.2.2.2.1
  have hK := X.2.2.2.1
  have k_172 : (.constantLong RX11 172 (4) : Cond).before _ s = true := hts _ (List.mem_of_getElem? (i := 1) (by decide +kernel))
  have k_174 : (.constantLong RX11 174 (1000) : Cond).before _ s = true := hts _ (List.mem_of_getElem? (i := 2) (by decide +kernel))
  have hl : lv_has ls 6 [(0, .ref a_t), (1, .int p1), (2, .long p2)] := hl
  rw [mX11_judge] at hm
  refine lv_iload_n hx hb dX11_judge_0 rfl (lv_at hl 1 rfl) ?_
  refine lv_i2l (v := (p1 : Int32).toInt64) hx hb dX11_judge_1 rfl ?_
  refine lv_lconst (v := 1) hx hb dX11_judge_2 (by decide) ?_
  refine lv_ldc2 (v := 4) hx hb hown k_172 dX11_judge_3 ?_
  refine kcS0 (st1 := [.int (bI (mX11_in ((p1 : Int32).toInt64) 1 4))]) X hA (c_X11_in l G cI cZ cE ((p1 : Int32).toInt64) 1 4 _ rfl) (va_cwS 3 hts gX11_judge_X11_in rfl rfl rfl hd_X11_in ⟨Nat.le_of_ble_eq_true rfl, Nat.le_of_ble_eq_true rfl⟩) hl.1 dX11_judge_6 hP hD hS [] rfl rfl rfl [] rfl (Nat.le_of_ble_eq_true rfl) rfl ⟨Nat.zero_le _, Nat.zero_le _⟩ (fun H locs hP hD hS => ?_)
  refine lv_if_eq (tgt := 28) hx hb dX11_judge_9 (by decide) (fun c9 => ?_) (fun c9 => ?_)
  · have c9 := kb0 c9
    rw [if_neg c9] at hm
    refine lv_bipush (v := (-2)) hx hb dX11_judge_28 (by decide) ?_
    have hm := Option.some.inj hm
    subst hm
    exact k_iret (v := (-2)) X rfl dX11_judge_30 hP hD hS
  · have c9 := kb1 c9
    rw [if_pos c9] at hm
    refine lv_lload_n hx hb dX11_judge_12 rfl (lv_at hl 2 rfl) ?_
    refine lv_lconst (v := 0) hx hb dX11_judge_13 (by decide) ?_
    refine lv_iconst (v := 3) hx hb dX11_judge_14 (by decide) ?_
    refine lv_iload_n hx hb dX11_judge_15 rfl (lv_at hl 1 rfl) ?_
    refine lv_imul hx hb dX11_judge_16 ?_
    obtain ⟨r17, hc17, hm⟩ := kbind hm
    refine kcS0 (st1 := [.long r17, .long 0, .long p2]) X hA (c_X11_tenTo l G cI cZ cE (3 * p1) r17 hc17) (va_cwS 1 hts gX11_judge_X11_tenTo rfl rfl rfl hd_X11_tenTo ⟨Nat.le_of_ble_eq_true rfl, Nat.le_of_ble_eq_true rfl⟩) hl.1 dX11_judge_17 hP hD hS [] rfl rfl rfl [.long 0, .long p2] rfl (Nat.le_of_ble_eq_true rfl) rfl ⟨Nat.zero_le _, Nat.zero_le _⟩ (fun H locs hP hD hS => ?_)
    refine lv_lconst (v := 1) hx hb dX11_judge_20 (by decide) ?_
    refine lv_lsub hx hb dX11_judge_21 ?_
    refine kcS0 (st1 := [.int (bI (mX11_in p2 0 (r17 - 1)))]) X hA (c_X11_in l G cI cZ cE p2 0 (r17 - 1) _ rfl) (va_cwS 3 hts gX11_judge_X11_in rfl rfl rfl hd_X11_in ⟨Nat.le_of_ble_eq_true rfl, Nat.le_of_ble_eq_true rfl⟩) hl.1 dX11_judge_22 hP hD hS [] rfl rfl rfl [] rfl (Nat.le_of_ble_eq_true rfl) rfl ⟨Nat.zero_le _, Nat.zero_le _⟩ (fun H locs hP hD hS => ?_)
    refine lv_if_ne (tgt := 31) hx hb dX11_judge_25 (by decide) (fun c25 => ?_) (fun c25 => ?_)
    · have c25 := kb1 c25
      rw [if_pos c25] at hm
      refine lv_aload_n hx hb dX11_judge_31 rfl (lv_at hl 0 rfl) ?_
      obtain ⟨r32, hc32, hm⟩ := kbind hm
      refine kcV (ws1 := [(a_t, .inr (8, [.int k_t_knots, .ref a_t_now, .int k_t_readKnots, .ref a_t_text, .int k_t_length, .ref a_t_covers, .int k_t_reached, .ref a_t_order, .ref a_t_way, .ref a_t_tried, .int k_t_acts, .int k_t_next, .ref a_t_row, .ref a_t_lids, .ref a_t_shown, .int k_t_seen, .ref a_t_seenKnot, .ref a_t_seenLid, .ref a_t_seenHad, .long k_t_seed, .ref a_t_isKept, .ref a_t_kept])), (a_t_now, .inl (cI, 100, .inl r32)), (a_t_covers, .inl (cI, 8, .inl f_t_covers)), (a_t_order, .inl (cI, 8, .inl f_t_order)), (a_t_way, .inl (cI, 8, .inl f_t_way)), (a_t_tried, .inl (cI, 8, .inl f_t_tried))]) (st1 := []) X hA (c_X11_layTrial l G cI cZ cE a_t a_t_now a_t_text a_t_covers a_t_order a_t_way a_t_tried a_t_row a_t_lids a_t_shown a_t_seenKnot a_t_seenLid a_t_seenHad a_t_isKept a_t_kept k_t_knots k_t_readKnots k_t_length k_t_reached k_t_acts k_t_next k_t_seen k_t_seed f_t_now r32 hc32) (cwV 0 hts gX11_judge_X11_layTrial rfl rfl rfl hd_X11_layTrial ⟨Nat.le_of_ble_eq_true rfl, Nat.le_of_ble_eq_true rfl⟩) 0 8 rfl rfl hl.1 dX11_judge_32 hP hD hS [0, 1] rfl rfl rfl rfl rfl [] rfl (Nat.le_of_ble_eq_true rfl) rfl ⟨Nat.zero_le _, Nat.zero_le _⟩ (fun H locs hP hD hS => ?_)
      refine lv_iconst (v := 0) hx hb dX11_judge_35 (by decide) ?_
      refine lv_istore (lv' := [(4, .int 0), (0, .ref a_t), (1, .int p1), (2, .long p2)]) hx hb dX11_judge_36 hl (by decide) rfl (fun ls hl => ?_)
      have h38 : ∀ (n38 : Nat), ∀ (v38_4 : Int32) (w38_k_t_reached : Int32) (w38_f_t_now : Nat → Int32) (w38_f_t_covers : Nat → Int32) (w38_f_t_order : Nat → Int32) (w38_f_t_way : Nat → Int32) (w38_f_t_tried : Nat → Int32) (H : Heap) (locs : List Loc) (ls : Array Slot), va_P G vwCl [(a_t, .inr (8, [.int k_t_knots, .ref a_t_now, .int k_t_readKnots, .ref a_t_text, .int k_t_length, .ref a_t_covers, .int w38_k_t_reached, .ref a_t_order, .ref a_t_way, .ref a_t_tried, .int k_t_acts, .int k_t_next, .ref a_t_row, .ref a_t_lids, .ref a_t_shown, .int k_t_seen, .ref a_t_seenKnot, .ref a_t_seenLid, .ref a_t_seenHad, .long k_t_seed, .ref a_t_isKept, .ref a_t_kept])), (a_t_now, .inl (cI, 100, .inl w38_f_t_now)), (a_t_covers, .inl (cI, 8, .inl w38_f_t_covers)), (a_t_order, .inl (cI, 8, .inl w38_f_t_order)), (a_t_way, .inl (cI, 8, .inl w38_f_t_way)), (a_t_tried, .inl (cI, 8, .inl w38_f_t_tried))] H → va_D A [(a_t, .inr (8, [.int k_t_knots, .ref a_t_now, .int k_t_readKnots, .ref a_t_text, .int k_t_length, .ref a_t_covers, .int w38_k_t_reached, .ref a_t_order, .ref a_t_way, .ref a_t_tried, .int k_t_acts, .int k_t_next, .ref a_t_row, .ref a_t_lids, .ref a_t_shown, .int k_t_seen, .ref a_t_seenKnot, .ref a_t_seenLid, .ref a_t_seenHad, .long k_t_seed, .ref a_t_isKept, .ref a_t_kept])), (a_t_now, .inl (cI, 100, .inl w38_f_t_now)), (a_t_covers, .inl (cI, 8, .inl w38_f_t_covers)), (a_t_order, .inl (cI, 8, .inl w38_f_t_order)), (a_t_way, .inl (cI, 8, .inl w38_f_t_way)), (a_t_tried, .inl (cI, 8, .inl w38_f_t_tried))] → va_S A s.heap H locs → lv_has ls 6 [(0, .ref a_t), (1, .int p1), (2, .long p2), (4, .int v38_4)] → mX11_judge_L38 k_t_knots p1 p2 n38 v38_4 w38_k_t_reached w38_f_t_now w38_f_t_covers w38_f_t_order w38_f_t_way w38_f_t_tried = some R → W p l e { frames := 4, cells := 0, slots := 0, locals := 102 } s m ([.ref a_t, .int p1, .long p2] : List Value).toArray below meth c H locs 0 0 (kQ below G [(a_t, .inr (8, [.int k_t_knots, .ref a_t_now, .int k_t_readKnots, .ref a_t_text, .int k_t_length, .ref a_t_covers, .int R.2.1, .ref a_t_order, .ref a_t_way, .ref a_t_tried, .int k_t_acts, .int k_t_next, .ref a_t_row, .ref a_t_lids, .ref a_t_shown, .int k_t_seen, .ref a_t_seenKnot, .ref a_t_seenLid, .ref a_t_seenHad, .long k_t_seed, .ref a_t_isKept, .ref a_t_kept])), (a_t_now, .inl (cI, 100, .inl R.2.2.1)), (a_t_covers, .inl (cI, 8, .inl R.2.2.2.1)), (a_t_order, .inl (cI, 8, .inl R.2.2.2.2.1)), (a_t_way, .inl (cI, 8, .inl R.2.2.2.2.2.1)), (a_t_tried, .inl (cI, 8, .inl R.2.2.2.2.2.2))] (some (.int R.1)) A ([.ref a_t, .int p1, .long p2] : List Value).toArray s) (F0 m 38 ls []) := by
        intro n38
        induction n38 with
        | zero => intro v38_4 w38_k_t_reached w38_f_t_now w38_f_t_covers w38_f_t_order w38_f_t_way w38_f_t_tried H locs ls hP hD hS hl hm; rw [mX11_judge_L38] at hm; cases hm
        | succ n38 ih38 =>
          intro v38_4 w38_k_t_reached w38_f_t_now w38_f_t_covers w38_f_t_order w38_f_t_way w38_f_t_tried H locs ls hP hD hS hl hm
          rw [mX11_judge_L38] at hm
          refine lv_iload hx hb dX11_judge_38 (lv_at hl 3 rfl) ?_
          refine lv_iload_n hx hb dX11_judge_40 rfl (lv_at hl 1 rfl) ?_
          refine lv_icmp_ge (tgt := 98) hx hb dX11_judge_41 (by decide) (fun c41 => ?_) (fun c41 => ?_)
          · rw [if_pos c41] at hm
            refine lv_bipush (v := (-9)) hx hb dX11_judge_98 (by decide) ?_
            have hm := Option.some.inj hm
            subst hm
            exact k_iret (v := (-9)) X rfl dX11_judge_100 hP hD hS
          · rw [if_neg c41] at hm
            refine lv_lload_n hx hb dX11_judge_44 rfl (lv_at hl 2 rfl) ?_
            refine lv_iconst (v := 3) hx hb dX11_judge_45 (by decide) ?_
            refine lv_iload_n hx hb dX11_judge_46 rfl (lv_at hl 1 rfl) ?_
            refine lv_iconst (v := 1) hx hb dX11_judge_47 (by decide) ?_
            refine lv_isub hx hb dX11_judge_48 ?_
            refine lv_iload hx hb dX11_judge_49 (lv_at hl 3 rfl) ?_
            refine lv_isub hx hb dX11_judge_51 ?_
            refine lv_imul hx hb dX11_judge_52 ?_
            obtain ⟨r53, hc53, hm⟩ := kbind hm
            refine kcS0 (st1 := [.long r53, .long p2]) X hA (c_X11_tenTo l G cI cZ cE (3 * ((p1 - 1) - v38_4)) r53 hc53) (va_cwS 1 hts gX11_judge_X11_tenTo rfl rfl rfl hd_X11_tenTo ⟨Nat.le_of_ble_eq_true rfl, Nat.le_of_ble_eq_true rfl⟩) hl.1 dX11_judge_53 hP hD hS [] rfl rfl rfl [.long p2] rfl (Nat.le_of_ble_eq_true rfl) rfl ⟨Nat.zero_le _, Nat.zero_le _⟩ (fun H locs hP hD hS => ?_)
            obtain ⟨g56, hm⟩ := gd_some hm
            refine lv_ldiv hx hb dX11_judge_56 (kneL_ok g56) ?_
            refine lv_ldc2 (v := 1000) hx hb hown k_174 dX11_judge_57 ?_
            refine lv_lrem hx hb dX11_judge_60 (by decide) ?_
            refine lv_l2i (v := ((p2 / r53) - (p2 / r53) / 1000 * 1000 : Int64).toInt32) hx hb dX11_judge_61 rfl ?_
            refine lv_istore (lv' := [(5, .int (((p2 / r53) - (p2 / r53) / 1000 * 1000 : Int64).toInt32)), (0, .ref a_t), (1, .int p1), (2, .long p2), (4, .int v38_4)]) hx hb dX11_judge_62 hl (by decide) rfl (fun ls hl => ?_)
            refine lv_aload_n hx hb dX11_judge_64 rfl (lv_at hl 1 rfl) ?_
            refine lv_iload hx hb dX11_judge_65 (lv_at hl 0 rfl) ?_
            refine lv_bipush (v := 100) hx hb dX11_judge_67 (by decide) ?_
            refine lv_idiv hx hb dX11_judge_69 (by decide) ?_
            refine lv_iload hx hb dX11_judge_70 (lv_at hl 0 rfl) ?_
            refine lv_bipush (v := 10) hx hb dX11_judge_72 (by decide) ?_
            refine lv_idiv hx hb dX11_judge_74 (by decide) ?_
            refine lv_bipush (v := 10) hx hb dX11_judge_75 (by decide) ?_
            refine lv_irem hx hb dX11_judge_77 (by decide) ?_
            refine lv_iload hx hb dX11_judge_78 (lv_at hl 0 rfl) ?_
            refine lv_bipush (v := 10) hx hb dX11_judge_80 (by decide) ?_
            refine lv_irem hx hb dX11_judge_82 (by decide) ?_
            obtain ⟨r83, hc83, hm⟩ := kbind hm
            refine kcV (ws1 := [(a_t, .inr (8, [.int k_t_knots, .ref a_t_now, .int k_t_readKnots, .ref a_t_text, .int k_t_length, .ref a_t_covers, .int r83.2.1, .ref a_t_order, .ref a_t_way, .ref a_t_tried, .int k_t_acts, .int k_t_next, .ref a_t_row, .ref a_t_lids, .ref a_t_shown, .int k_t_seen, .ref a_t_seenKnot, .ref a_t_seenLid, .ref a_t_seenHad, .long k_t_seed, .ref a_t_isKept, .ref a_t_kept])), (a_t_now, .inl (cI, 100, .inl r83.2.2.1)), (a_t_covers, .inl (cI, 8, .inl r83.2.2.2.1)), (a_t_order, .inl (cI, 8, .inl r83.2.2.2.2.1)), (a_t_way, .inl (cI, 8, .inl r83.2.2.2.2.2.1)), (a_t_tried, .inl (cI, 8, .inl r83.2.2.2.2.2.2))]) (st1 := [.int (bI r83.1)]) X hA (c_X11_tryThing l G cI cZ cE a_t a_t_now a_t_text a_t_covers a_t_order a_t_way a_t_tried a_t_row a_t_lids a_t_shown a_t_seenKnot a_t_seenLid a_t_seenHad a_t_isKept a_t_kept k_t_knots k_t_readKnots k_t_length w38_k_t_reached k_t_acts k_t_next k_t_seen k_t_seed w38_f_t_now w38_f_t_covers w38_f_t_order w38_f_t_way w38_f_t_tried ((((p2 / r53) - (p2 / r53) / 1000 * 1000 : Int64).toInt32) / 100) (((((p2 / r53) - (p2 / r53) / 1000 * 1000 : Int64).toInt32) / 10) - ((((p2 / r53) - (p2 / r53) / 1000 * 1000 : Int64).toInt32) / 10) / 10 * 10) ((((p2 / r53) - (p2 / r53) / 1000 * 1000 : Int64).toInt32) - (((p2 / r53) - (p2 / r53) / 1000 * 1000 : Int64).toInt32) / 10 * 10) r83 hc83) (cwV 3 hts gX11_judge_X11_tryThing rfl rfl rfl hd_X11_tryThing ⟨Nat.le_of_ble_eq_true rfl, Nat.le_of_ble_eq_true rfl⟩) 0 8 rfl rfl hl.1 dX11_judge_83 hP hD hS [0, 1, 2, 3, 4, 5] rfl rfl rfl rfl rfl [] rfl (Nat.le_of_ble_eq_true rfl) rfl ⟨Nat.zero_le _, Nat.zero_le _⟩ (fun H locs hP hD hS => ?_)
            refine lv_if_ne (tgt := 92) hx hb dX11_judge_86 (by decide) (fun c86 => ?_) (fun c86 => ?_)
            · have c86 := kb1 c86
              rw [if_pos c86] at hm
              refine lv_iinc (v := v38_4 + 1) (lv' := [(4, .int (v38_4 + 1)), (5, .int (((p2 / r53) - (p2 / r53) / 1000 * 1000 : Int64).toInt32)), (0, .ref a_t), (1, .int p1), (2, .long p2)]) hx hb dX11_judge_92 hl (k := 4) rfl rfl (by decide) rfl (fun ls hl => ?_)
              refine lv_goto (tgt := 38) hx hb dX11_judge_95 (by decide) ?_
              exact ih38 (v38_4 + 1) r83.2.1 r83.2.2.1 r83.2.2.2.1 r83.2.2.2.2.1 r83.2.2.2.2.2.1 r83.2.2.2.2.2.2 _ _ _ hP hD hS (lv_sub hl [2, 3, 4, 0] rfl) hm
            · have c86 := kb0 c86
              rw [if_neg c86] at hm
              refine lv_iload hx hb dX11_judge_89 (lv_at hl 4 rfl) ?_
              have hm := Option.some.inj hm
              subst hm
              exact k_iret (v := v38_4) X rfl dX11_judge_91 hP hD hS
      exact h38 kFU 0 k_t_reached r32 f_t_covers f_t_order f_t_way f_t_tried _ _ _ hP hD hS (lv_sub hl [1, 2, 3, 0] rfl) hm
    · have c25 := kb0 c25
      rw [if_neg c25] at hm
      refine lv_bipush (v := (-2)) hx hb dX11_judge_28 (by decide) ?_
      have hm := Option.some.inj hm
      subst hm
      exact k_iret (v := (-2)) X rfl dX11_judge_30 hP hD hS
theorem hd_X11_judge : yX11_judge.cls = RX11 ∧ yX11_judge.cls ≠ "java/lang/invoke/MethodHandle" ∧ yX11_judge.cls ≠ "java/lang/invoke/VarHandle" ∧ (parseMethodDescriptor yX11_judge.desc).map (fun d => d.parameters.length) = some 2 := by decide +kernel
/-! CoverOrderModel see -/
set_option maxRecDepth 100000 in
set_option maxHeartbeats 4000000 in
theorem c_X11_see (l : Launch) (G : va_G) (cI cZ cE : ClassId) (a_t a_t_now a_t_text a_t_covers a_t_order a_t_way a_t_tried a_t_row a_t_lids a_t_shown a_t_seenKnot a_t_seenLid a_t_seenHad a_t_isKept a_t_kept : Nat) (k_t_knots : Int32) (k_t_readKnots : Int32) (k_t_length : Int32) (k_t_reached : Int32) (k_t_acts : Int32) (k_t_next : Int32) (k_t_seen : Int32) (k_t_seed : Int64) (f_t_seenKnot : Nat → Int32) (f_t_seenLid : Nat → Int32) (f_t_seenHad : Nat → Int32) (p1 : Int32) (p2 : Int32) (p3 : Int32) (R : Int32 × Int32 × (Nat → Int32) × (Nat → Int32) × (Nat → Int32)) (hm : mX11_see k_t_seen f_t_seenKnot f_t_seenLid f_t_seenHad p1 p2 p3 = some R) : kM l yX11_see wsX11_see { frames := 1, cells := 0, slots := 0, locals := 25 } G cI cZ cE [.ref a_t, .int p1, .int p2, .int p3] [(a_t, .inr (8, [.int k_t_knots, .ref a_t_now, .int k_t_readKnots, .ref a_t_text, .int k_t_length, .ref a_t_covers, .int k_t_reached, .ref a_t_order, .ref a_t_way, .ref a_t_tried, .int k_t_acts, .int k_t_next, .ref a_t_row, .ref a_t_lids, .ref a_t_shown, .int k_t_seen, .ref a_t_seenKnot, .ref a_t_seenLid, .ref a_t_seenHad, .long k_t_seed, .ref a_t_isKept, .ref a_t_kept])), (a_t_seenKnot, .inl (cI, 6, .inl f_t_seenKnot)), (a_t_seenLid, .inl (cI, 6, .inl f_t_seenLid)), (a_t_seenHad, .inl (cI, 6, .inl f_t_seenHad))] [(a_t, .inr (8, [.int k_t_knots, .ref a_t_now, .int k_t_readKnots, .ref a_t_text, .int k_t_length, .ref a_t_covers, .int k_t_reached, .ref a_t_order, .ref a_t_way, .ref a_t_tried, .int k_t_acts, .int k_t_next, .ref a_t_row, .ref a_t_lids, .ref a_t_shown, .int R.2.1, .ref a_t_seenKnot, .ref a_t_seenLid, .ref a_t_seenHad, .long k_t_seed, .ref a_t_isKept, .ref a_t_kept])), (a_t_seenKnot, .inl (cI, 6, .inl R.2.2.1)), (a_t_seenLid, .inl (cI, 6, .inl R.2.2.2.1)), (a_t_seenHad, .inl (cI, 6, .inl R.2.2.2.2))] (some (.int R.1)) := by
  refine kM_of cX11_see 4 (some .int) RX11 (by decide) rfl rfl (Nat.le_of_ble_eq_true rfl) ?_
  intro p e s m below meth c A ls X hA hP hD hS hl
  have hx := X.1.1
  have hb := X.1.2.1
  have hts := X.1.2.2.2.2
  have hown := X.1.2.2.2.1
  have hK := X.2.2.2.1
  have k_155 : (.constantLong RX11 155 (7) : Cond).before _ s = true := hts _ (List.mem_of_getElem? (i := 1) (by decide +kernel))
  have l_180 : (.fieldLink RX11 180 "CoverOrderModel" "seen" "I" : Cond).before _ s = true := hts _ (List.mem_of_getElem? (i := 2) (by decide +kernel))
  have i_X11 : ∀ w ∈ u_ws RX11 TX11 22, w ∈ wsX11_see := k_in _ [10, 11, 12, 13, 14, 15, 16, 17, 18, 19, 20, 21, 22, 23, 24, 25, 26, 27, 28, 29, 30, 31] (by decide +kernel)
  have l_41 : (.fieldLink RX11 41 "CoverOrderModel" "seenKnot" "[I" : Cond).before _ s = true := hts _ (List.mem_of_getElem? (i := 3) (by decide +kernel))
  have l_44 : (.fieldLink RX11 44 "CoverOrderModel" "seenLid" "[I" : Cond).before _ s = true := hts _ (List.mem_of_getElem? (i := 4) (by decide +kernel))
  have l_47 : (.fieldLink RX11 47 "CoverOrderModel" "seenHad" "[I" : Cond).before _ s = true := hts _ (List.mem_of_getElem? (i := 5) (by decide +kernel))
  have hl : lv_has ls 4 [(0, .ref a_t), (1, .int p1), (2, .int p2), (3, .int p3)] := hl
  rw [mX11_see] at hm
  refine lv_iload_n hx hb dX11_see_0 rfl (lv_at hl 1 rfl) ?_
  refine lv_i2l (v := (p1 : Int32).toInt64) hx hb dX11_see_1 rfl ?_
  refine lv_lconst (v := 0) hx hb dX11_see_2 (by decide) ?_
  refine lv_ldc2 (v := 7) hx hb hown k_155 dX11_see_3 ?_
  refine kcS0 (st1 := [.int (bI (mX11_in ((p1 : Int32).toInt64) 0 7))]) X hA (c_X11_in l G cI cZ cE ((p1 : Int32).toInt64) 0 7 _ rfl) (va_cwS 3 hts gX11_see_X11_in rfl rfl rfl hd_X11_in ⟨Nat.le_of_ble_eq_true rfl, Nat.le_of_ble_eq_true rfl⟩) hl.1 dX11_see_6 hP hD hS [] rfl rfl rfl [] rfl (Nat.le_of_ble_eq_true rfl) rfl ⟨Nat.zero_le _, Nat.zero_le _⟩ (fun H locs hP hD hS => ?_)
  refine lv_if_eq (tgt := 34) hx hb dX11_see_9 (by decide) (fun c9 => ?_) (fun c9 => ?_)
  · have c9 := kb0 c9
    rw [if_neg c9] at hm
    refine lv_bipush (v := (-2)) hx hb dX11_see_34 (by decide) ?_
    have hm := Option.some.inj hm
    subst hm
    exact k_iret (v := (-2)) X rfl dX11_see_36 hP hD hS
  · have c9 := kb1 c9
    rw [if_pos c9] at hm
    refine lv_iload_n hx hb dX11_see_12 rfl (lv_at hl 2 rfl) ?_
    refine lv_i2l (v := (p2 : Int32).toInt64) hx hb dX11_see_13 rfl ?_
    refine lv_lconst (v := 0) hx hb dX11_see_14 (by decide) ?_
    refine lv_ldc2 (v := 7) hx hb hown k_155 dX11_see_15 ?_
    refine kcS0 (st1 := [.int (bI (mX11_in ((p2 : Int32).toInt64) 0 7))]) X hA (c_X11_in l G cI cZ cE ((p2 : Int32).toInt64) 0 7 _ rfl) (va_cwS 3 hts gX11_see_X11_in rfl rfl rfl hd_X11_in ⟨Nat.le_of_ble_eq_true rfl, Nat.le_of_ble_eq_true rfl⟩) hl.1 dX11_see_18 hP hD hS [] rfl rfl rfl [] rfl (Nat.le_of_ble_eq_true rfl) rfl ⟨Nat.zero_le _, Nat.zero_le _⟩ (fun H locs hP hD hS => ?_)
    refine lv_if_eq (tgt := 34) hx hb dX11_see_21 (by decide) (fun c21 => ?_) (fun c21 => ?_)
    · have c21 := kb0 c21
      rw [if_neg c21] at hm
      refine lv_bipush (v := (-2)) hx hb dX11_see_34 (by decide) ?_
      have hm := Option.some.inj hm
      subst hm
      exact k_iret (v := (-2)) X rfl dX11_see_36 hP hD hS
    · have c21 := kb1 c21
      rw [if_pos c21] at hm
      refine lv_iload_n hx hb dX11_see_24 rfl (lv_at hl 3 rfl) ?_
      refine lv_i2l (v := (p3 : Int32).toInt64) hx hb dX11_see_25 rfl ?_
      refine lv_lconst (v := 0) hx hb dX11_see_26 (by decide) ?_
      refine lv_lconst (v := 1) hx hb dX11_see_27 (by decide) ?_
      refine kcS0 (st1 := [.int (bI (mX11_in ((p3 : Int32).toInt64) 0 1))]) X hA (c_X11_in l G cI cZ cE ((p3 : Int32).toInt64) 0 1 _ rfl) (va_cwS 3 hts gX11_see_X11_in rfl rfl rfl hd_X11_in ⟨Nat.le_of_ble_eq_true rfl, Nat.le_of_ble_eq_true rfl⟩) hl.1 dX11_see_28 hP hD hS [] rfl rfl rfl [] rfl (Nat.le_of_ble_eq_true rfl) rfl ⟨Nat.zero_le _, Nat.zero_le _⟩ (fun H locs hP hD hS => ?_)
      refine lv_if_ne (tgt := 37) hx hb dX11_see_31 (by decide) (fun c31 => ?_) (fun c31 => ?_)
      · have c31 := kb1 c31
        rw [if_pos c31] at hm
        refine lv_aload_n hx hb dX11_see_37 rfl (lv_at hl 0 rfl) ?_
        refine va_get (D := G) (ci := 8) (v := .int k_t_seen) (C := RX11) (T := TX11) (N := 22) hx hb hts i_X11 hown hK hP 0 rfl rfl 15 (by decide) l_180 (fun _ h9 => h9) rfl dX11_see_38 ?_
        refine lv_bipush (v := 6) hx hb dX11_see_41 (by decide) ?_
        refine lv_icmp_ne (tgt := 49) hx hb dX11_see_43 (by decide) (fun c43 => ?_) (fun c43 => ?_)
        · rw [if_neg c43] at hm
          refine lv_aload_n hx hb dX11_see_49 rfl (lv_at hl 0 rfl) ?_
          refine va_get (D := G) (ci := 8) (v := .ref a_t_seenKnot) (C := RX11) (T := TX11) (N := 22) hx hb hts i_X11 hown hK hP 0 rfl rfl 16 (by decide) l_41 (fun _ h9 => h9) rfl dX11_see_50 ?_
          refine lv_aload_n hx hb dX11_see_53 rfl (lv_at hl 0 rfl) ?_
          refine va_get (D := G) (ci := 8) (v := .int k_t_seen) (C := RX11) (T := TX11) (N := 22) hx hb hts i_X11 hown hK hP 0 rfl rfl 15 (by decide) l_180 (fun _ h9 => h9) rfl dX11_see_54 ?_
          refine lv_iload_n hx hb dX11_see_57 rfl (lv_at hl 1 rfl) ?_
          obtain ⟨g58, hm⟩ := gd_some hm
          refine va_iast hx hb hK hP hD hS 1 0 rfl rfl (kin_ok g58) dX11_see_58 (fun H locs hP hD hS => ?_)
          have hP : va_P G vwCl [(a_t, .inr (8, [.int k_t_knots, .ref a_t_now, .int k_t_readKnots, .ref a_t_text, .int k_t_length, .ref a_t_covers, .int k_t_reached, .ref a_t_order, .ref a_t_way, .ref a_t_tried, .int k_t_acts, .int k_t_next, .ref a_t_row, .ref a_t_lids, .ref a_t_shown, .int k_t_seen, .ref a_t_seenKnot, .ref a_t_seenLid, .ref a_t_seenHad, .long k_t_seed, .ref a_t_isKept, .ref a_t_kept])), (a_t_seenKnot, .inl (cI, 6, .inl (upd f_t_seenKnot (Int32.toNatClampNeg k_t_seen) p1))), (a_t_seenLid, .inl (cI, 6, .inl f_t_seenLid)), (a_t_seenHad, .inl (cI, 6, .inl f_t_seenHad))] H := hP
          have hD : va_D A [(a_t, .inr (8, [.int k_t_knots, .ref a_t_now, .int k_t_readKnots, .ref a_t_text, .int k_t_length, .ref a_t_covers, .int k_t_reached, .ref a_t_order, .ref a_t_way, .ref a_t_tried, .int k_t_acts, .int k_t_next, .ref a_t_row, .ref a_t_lids, .ref a_t_shown, .int k_t_seen, .ref a_t_seenKnot, .ref a_t_seenLid, .ref a_t_seenHad, .long k_t_seed, .ref a_t_isKept, .ref a_t_kept])), (a_t_seenKnot, .inl (cI, 6, .inl (upd f_t_seenKnot (Int32.toNatClampNeg k_t_seen) p1))), (a_t_seenLid, .inl (cI, 6, .inl f_t_seenLid)), (a_t_seenHad, .inl (cI, 6, .inl f_t_seenHad))] := hD
          refine lv_aload_n hx hb dX11_see_59 rfl (lv_at hl 0 rfl) ?_
          refine va_get (D := G) (ci := 8) (v := .ref a_t_seenLid) (C := RX11) (T := TX11) (N := 22) hx hb hts i_X11 hown hK hP 0 rfl rfl 17 (by decide) l_44 (fun _ h9 => h9) rfl dX11_see_60 ?_
          refine lv_aload_n hx hb dX11_see_63 rfl (lv_at hl 0 rfl) ?_
          refine va_get (D := G) (ci := 8) (v := .int k_t_seen) (C := RX11) (T := TX11) (N := 22) hx hb hts i_X11 hown hK hP 0 rfl rfl 15 (by decide) l_180 (fun _ h9 => h9) rfl dX11_see_64 ?_
          refine lv_iload_n hx hb dX11_see_67 rfl (lv_at hl 2 rfl) ?_
          obtain ⟨g68, hm⟩ := gd_some hm
          refine va_iast hx hb hK hP hD hS 2 0 rfl rfl (kin_ok g68) dX11_see_68 (fun H locs hP hD hS => ?_)
          have hP : va_P G vwCl [(a_t, .inr (8, [.int k_t_knots, .ref a_t_now, .int k_t_readKnots, .ref a_t_text, .int k_t_length, .ref a_t_covers, .int k_t_reached, .ref a_t_order, .ref a_t_way, .ref a_t_tried, .int k_t_acts, .int k_t_next, .ref a_t_row, .ref a_t_lids, .ref a_t_shown, .int k_t_seen, .ref a_t_seenKnot, .ref a_t_seenLid, .ref a_t_seenHad, .long k_t_seed, .ref a_t_isKept, .ref a_t_kept])), (a_t_seenKnot, .inl (cI, 6, .inl (upd f_t_seenKnot (Int32.toNatClampNeg k_t_seen) p1))), (a_t_seenLid, .inl (cI, 6, .inl (upd f_t_seenLid (Int32.toNatClampNeg k_t_seen) p2))), (a_t_seenHad, .inl (cI, 6, .inl f_t_seenHad))] H := hP
          have hD : va_D A [(a_t, .inr (8, [.int k_t_knots, .ref a_t_now, .int k_t_readKnots, .ref a_t_text, .int k_t_length, .ref a_t_covers, .int k_t_reached, .ref a_t_order, .ref a_t_way, .ref a_t_tried, .int k_t_acts, .int k_t_next, .ref a_t_row, .ref a_t_lids, .ref a_t_shown, .int k_t_seen, .ref a_t_seenKnot, .ref a_t_seenLid, .ref a_t_seenHad, .long k_t_seed, .ref a_t_isKept, .ref a_t_kept])), (a_t_seenKnot, .inl (cI, 6, .inl (upd f_t_seenKnot (Int32.toNatClampNeg k_t_seen) p1))), (a_t_seenLid, .inl (cI, 6, .inl (upd f_t_seenLid (Int32.toNatClampNeg k_t_seen) p2))), (a_t_seenHad, .inl (cI, 6, .inl f_t_seenHad))] := hD
          refine lv_aload_n hx hb dX11_see_69 rfl (lv_at hl 0 rfl) ?_
          refine va_get (D := G) (ci := 8) (v := .ref a_t_seenHad) (C := RX11) (T := TX11) (N := 22) hx hb hts i_X11 hown hK hP 0 rfl rfl 18 (by decide) l_47 (fun _ h9 => h9) rfl dX11_see_70 ?_
          refine lv_aload_n hx hb dX11_see_73 rfl (lv_at hl 0 rfl) ?_
          refine va_get (D := G) (ci := 8) (v := .int k_t_seen) (C := RX11) (T := TX11) (N := 22) hx hb hts i_X11 hown hK hP 0 rfl rfl 15 (by decide) l_180 (fun _ h9 => h9) rfl dX11_see_74 ?_
          refine lv_iload_n hx hb dX11_see_77 rfl (lv_at hl 3 rfl) ?_
          obtain ⟨g78, hm⟩ := gd_some hm
          refine va_iast hx hb hK hP hD hS 3 0 rfl rfl (kin_ok g78) dX11_see_78 (fun H locs hP hD hS => ?_)
          have hP : va_P G vwCl [(a_t, .inr (8, [.int k_t_knots, .ref a_t_now, .int k_t_readKnots, .ref a_t_text, .int k_t_length, .ref a_t_covers, .int k_t_reached, .ref a_t_order, .ref a_t_way, .ref a_t_tried, .int k_t_acts, .int k_t_next, .ref a_t_row, .ref a_t_lids, .ref a_t_shown, .int k_t_seen, .ref a_t_seenKnot, .ref a_t_seenLid, .ref a_t_seenHad, .long k_t_seed, .ref a_t_isKept, .ref a_t_kept])), (a_t_seenKnot, .inl (cI, 6, .inl (upd f_t_seenKnot (Int32.toNatClampNeg k_t_seen) p1))), (a_t_seenLid, .inl (cI, 6, .inl (upd f_t_seenLid (Int32.toNatClampNeg k_t_seen) p2))), (a_t_seenHad, .inl (cI, 6, .inl (upd f_t_seenHad (Int32.toNatClampNeg k_t_seen) p3)))] H := hP
          have hD : va_D A [(a_t, .inr (8, [.int k_t_knots, .ref a_t_now, .int k_t_readKnots, .ref a_t_text, .int k_t_length, .ref a_t_covers, .int k_t_reached, .ref a_t_order, .ref a_t_way, .ref a_t_tried, .int k_t_acts, .int k_t_next, .ref a_t_row, .ref a_t_lids, .ref a_t_shown, .int k_t_seen, .ref a_t_seenKnot, .ref a_t_seenLid, .ref a_t_seenHad, .long k_t_seed, .ref a_t_isKept, .ref a_t_kept])), (a_t_seenKnot, .inl (cI, 6, .inl (upd f_t_seenKnot (Int32.toNatClampNeg k_t_seen) p1))), (a_t_seenLid, .inl (cI, 6, .inl (upd f_t_seenLid (Int32.toNatClampNeg k_t_seen) p2))), (a_t_seenHad, .inl (cI, 6, .inl (upd f_t_seenHad (Int32.toNatClampNeg k_t_seen) p3)))] := hD
          refine lv_aload_n hx hb dX11_see_79 rfl (lv_at hl 0 rfl) ?_
          refine lv_dup hx hb dX11_see_80 rfl ?_
          refine va_get (D := G) (ci := 8) (v := .int k_t_seen) (C := RX11) (T := TX11) (N := 22) hx hb hts i_X11 hown hK hP 0 rfl rfl 15 (by decide) l_180 (fun _ h9 => h9) rfl dX11_see_81 ?_
          refine lv_iconst (v := 1) hx hb dX11_see_84 (by decide) ?_
          refine lv_iadd hx hb dX11_see_85 ?_
          refine va_put (D := G) (ci := 8) (v := .int (k_t_seen + 1)) (ty := .int) (C := RX11) (T := TX11) (N := 22) hx hb hts i_X11 tyX11 tyX11_ok nmX11 hown hK hP hD hS 0 rfl rfl 15 (by decide) l_180 (fun _ h9 => h9) rfl (by decide +kernel) rfl rfl (Nat.le_of_ble_eq_true rfl) dX11_see_86 (fun H locs hP hD hS => ?_)
          have hP : va_P G vwCl [(a_t, .inr (8, [.int k_t_knots, .ref a_t_now, .int k_t_readKnots, .ref a_t_text, .int k_t_length, .ref a_t_covers, .int k_t_reached, .ref a_t_order, .ref a_t_way, .ref a_t_tried, .int k_t_acts, .int k_t_next, .ref a_t_row, .ref a_t_lids, .ref a_t_shown, .int (k_t_seen + 1), .ref a_t_seenKnot, .ref a_t_seenLid, .ref a_t_seenHad, .long k_t_seed, .ref a_t_isKept, .ref a_t_kept])), (a_t_seenKnot, .inl (cI, 6, .inl (upd f_t_seenKnot (Int32.toNatClampNeg k_t_seen) p1))), (a_t_seenLid, .inl (cI, 6, .inl (upd f_t_seenLid (Int32.toNatClampNeg k_t_seen) p2))), (a_t_seenHad, .inl (cI, 6, .inl (upd f_t_seenHad (Int32.toNatClampNeg k_t_seen) p3)))] H := hP
          have hD : va_D A [(a_t, .inr (8, [.int k_t_knots, .ref a_t_now, .int k_t_readKnots, .ref a_t_text, .int k_t_length, .ref a_t_covers, .int k_t_reached, .ref a_t_order, .ref a_t_way, .ref a_t_tried, .int k_t_acts, .int k_t_next, .ref a_t_row, .ref a_t_lids, .ref a_t_shown, .int (k_t_seen + 1), .ref a_t_seenKnot, .ref a_t_seenLid, .ref a_t_seenHad, .long k_t_seed, .ref a_t_isKept, .ref a_t_kept])), (a_t_seenKnot, .inl (cI, 6, .inl (upd f_t_seenKnot (Int32.toNatClampNeg k_t_seen) p1))), (a_t_seenLid, .inl (cI, 6, .inl (upd f_t_seenLid (Int32.toNatClampNeg k_t_seen) p2))), (a_t_seenHad, .inl (cI, 6, .inl (upd f_t_seenHad (Int32.toNatClampNeg k_t_seen) p3)))] := hD
          refine lv_aload_n hx hb dX11_see_89 rfl (lv_at hl 0 rfl) ?_
          refine va_get (D := G) (ci := 8) (v := .int (k_t_seen + 1)) (C := RX11) (T := TX11) (N := 22) hx hb hts i_X11 hown hK hP 0 rfl rfl 15 (by decide) l_180 (fun _ h9 => h9) rfl dX11_see_90 ?_
          have hm := Option.some.inj hm
          subst hm
          exact k_iret (v := k_t_seen + 1) X rfl dX11_see_93 hP hD hS
        · rw [if_pos c43] at hm
          refine lv_bipush (v := (-4)) hx hb dX11_see_46 (by decide) ?_
          have hm := Option.some.inj hm
          subst hm
          exact k_iret (v := (-4)) X rfl dX11_see_48 hP hD hS
      · have c31 := kb0 c31
        rw [if_neg c31] at hm
        refine lv_bipush (v := (-2)) hx hb dX11_see_34 (by decide) ?_
        have hm := Option.some.inj hm
        subst hm
        exact k_iret (v := (-2)) X rfl dX11_see_36 hP hD hS
theorem hd_X11_see : yX11_see.cls = RX11 ∧ yX11_see.cls ≠ "java/lang/invoke/MethodHandle" ∧ yX11_see.cls ≠ "java/lang/invoke/VarHandle" ∧ (parseMethodDescriptor yX11_see.desc).map (fun d => d.parameters.length) = some 3 := by decide +kernel
/-! CoverOrderModel unsee -/
set_option maxRecDepth 100000 in
set_option maxHeartbeats 4000000 in
theorem c_X11_unsee (l : Launch) (G : va_G) (cI cZ cE : ClassId) (a_t a_t_now a_t_text a_t_covers a_t_order a_t_way a_t_tried a_t_row a_t_lids a_t_shown a_t_seenKnot a_t_seenLid a_t_seenHad a_t_isKept a_t_kept : Nat) (k_t_knots : Int32) (k_t_readKnots : Int32) (k_t_length : Int32) (k_t_reached : Int32) (k_t_acts : Int32) (k_t_next : Int32) (k_t_seen : Int32) (k_t_seed : Int64) (R : Int32 × Int32) (hm : mX11_unsee k_t_seen = R) : kM l yX11_unsee wsX11_unsee { frames := 0, cells := 0, slots := 0, locals := 0 } G cI cZ cE [.ref a_t] [(a_t, .inr (8, [.int k_t_knots, .ref a_t_now, .int k_t_readKnots, .ref a_t_text, .int k_t_length, .ref a_t_covers, .int k_t_reached, .ref a_t_order, .ref a_t_way, .ref a_t_tried, .int k_t_acts, .int k_t_next, .ref a_t_row, .ref a_t_lids, .ref a_t_shown, .int k_t_seen, .ref a_t_seenKnot, .ref a_t_seenLid, .ref a_t_seenHad, .long k_t_seed, .ref a_t_isKept, .ref a_t_kept]))] [(a_t, .inr (8, [.int k_t_knots, .ref a_t_now, .int k_t_readKnots, .ref a_t_text, .int k_t_length, .ref a_t_covers, .int k_t_reached, .ref a_t_order, .ref a_t_way, .ref a_t_tried, .int k_t_acts, .int k_t_next, .ref a_t_row, .ref a_t_lids, .ref a_t_shown, .int R.2, .ref a_t_seenKnot, .ref a_t_seenLid, .ref a_t_seenHad, .long k_t_seed, .ref a_t_isKept, .ref a_t_kept]))] (some (.int R.1)) := by
  refine kM_of cX11_unsee 2 (some .int) RX11 (by decide) rfl rfl (Nat.le_of_ble_eq_true rfl) ?_
  intro p e s m below meth c A ls X hA hP hD hS hl
  have hx := X.1.1
  have hb := X.1.2.1
  have hts := X.1.2.2.2.2
  have hown := X.1.2.2.2.1
  have hK := X.2.2.2.1
  have l_180 : (.fieldLink RX11 180 "CoverOrderModel" "seen" "I" : Cond).before _ s = true := hts _ (List.mem_of_getElem? (i := 1) (by decide +kernel))
  have i_X11 : ∀ w ∈ u_ws RX11 TX11 22, w ∈ wsX11_unsee := k_in _ [2, 3, 4, 5, 6, 7, 8, 9, 10, 11, 12, 13, 14, 15, 16, 17, 18, 19, 20, 21, 22, 23] (by decide +kernel)
  have hl : lv_has ls 2 [(0, .ref a_t)] := hl
  rw [mX11_unsee] at hm
  refine lv_aload_n hx hb dX11_unsee_0 rfl (lv_at hl 0 rfl) ?_
  refine va_get (D := G) (ci := 8) (v := .int k_t_seen) (C := RX11) (T := TX11) (N := 22) hx hb hts i_X11 hown hK hP 0 rfl rfl 15 (by decide) l_180 (fun _ h9 => h9) rfl dX11_unsee_1 ?_
  refine lv_istore_n (lv' := [(1, .int k_t_seen), (0, .ref a_t)]) hx hb dX11_unsee_4 rfl hl (by decide) rfl (fun ls hl => ?_)
  refine lv_aload_n hx hb dX11_unsee_5 rfl (lv_at hl 1 rfl) ?_
  refine lv_iconst (v := 0) hx hb dX11_unsee_6 (by decide) ?_
  refine va_put (D := G) (ci := 8) (v := .int 0) (ty := .int) (C := RX11) (T := TX11) (N := 22) hx hb hts i_X11 tyX11 tyX11_ok nmX11 hown hK hP hD hS 0 rfl rfl 15 (by decide) l_180 (fun _ h9 => h9) rfl (by decide +kernel) rfl rfl (Nat.le_of_ble_eq_true rfl) dX11_unsee_7 (fun H locs hP hD hS => ?_)
  have hP : va_P G vwCl [(a_t, .inr (8, [.int k_t_knots, .ref a_t_now, .int k_t_readKnots, .ref a_t_text, .int k_t_length, .ref a_t_covers, .int k_t_reached, .ref a_t_order, .ref a_t_way, .ref a_t_tried, .int k_t_acts, .int k_t_next, .ref a_t_row, .ref a_t_lids, .ref a_t_shown, .int 0, .ref a_t_seenKnot, .ref a_t_seenLid, .ref a_t_seenHad, .long k_t_seed, .ref a_t_isKept, .ref a_t_kept]))] H := hP
  have hD : va_D A [(a_t, .inr (8, [.int k_t_knots, .ref a_t_now, .int k_t_readKnots, .ref a_t_text, .int k_t_length, .ref a_t_covers, .int k_t_reached, .ref a_t_order, .ref a_t_way, .ref a_t_tried, .int k_t_acts, .int k_t_next, .ref a_t_row, .ref a_t_lids, .ref a_t_shown, .int 0, .ref a_t_seenKnot, .ref a_t_seenLid, .ref a_t_seenHad, .long k_t_seed, .ref a_t_isKept, .ref a_t_kept]))] := hD
  refine lv_iload_n hx hb dX11_unsee_10 rfl (lv_at hl 0 rfl) ?_
  subst hm
  exact k_iret (v := k_t_seen) X rfl dX11_unsee_11 hP hD hS
theorem hd_X11_unsee : yX11_unsee.cls = RX11 ∧ yX11_unsee.cls ≠ "java/lang/invoke/MethodHandle" ∧ yX11_unsee.cls ≠ "java/lang/invoke/VarHandle" ∧ (parseMethodDescriptor yX11_unsee.desc).map (fun d => d.parameters.length) = some 0 := by decide +kernel
/-! CoverOrderModel mayBe -/
set_option maxRecDepth 100000 in
set_option maxHeartbeats 4000000 in
theorem c_X11_mayBe (l : Launch) (G : va_G) (cI cZ cE : ClassId) (a_t a_t_now a_t_text a_t_covers a_t_order a_t_way a_t_tried a_t_row a_t_lids a_t_shown a_t_seenKnot a_t_seenLid a_t_seenHad a_t_isKept a_t_kept : Nat) (k_t_knots : Int32) (k_t_readKnots : Int32) (k_t_length : Int32) (k_t_reached : Int32) (k_t_acts : Int32) (k_t_next : Int32) (k_t_seen : Int32) (k_t_seed : Int64) (f_t_now : Nat → Int32) (f_t_covers : Nat → Int32) (f_t_seenKnot : Nat → Int32) (f_t_seenLid : Nat → Int32) (f_t_seenHad : Nat → Int32) (p1 : Int32) (p2 : Int32) (R : Bool × Int32 × (Nat → Int32) × (Nat → Int32)) (hm : mX11_mayBe k_t_reached k_t_seen f_t_now f_t_covers f_t_seenKnot f_t_seenLid f_t_seenHad p1 p2 = some R) : kM l yX11_mayBe wsX11_mayBe { frames := 3, cells := 0, slots := 0, locals := 77 } G cI cZ cE [.ref a_t, .int p1, .int p2] [(a_t, .inr (8, [.int k_t_knots, .ref a_t_now, .int k_t_readKnots, .ref a_t_text, .int k_t_length, .ref a_t_covers, .int k_t_reached, .ref a_t_order, .ref a_t_way, .ref a_t_tried, .int k_t_acts, .int k_t_next, .ref a_t_row, .ref a_t_lids, .ref a_t_shown, .int k_t_seen, .ref a_t_seenKnot, .ref a_t_seenLid, .ref a_t_seenHad, .long k_t_seed, .ref a_t_isKept, .ref a_t_kept])), (a_t_now, .inl (cI, 100, .inl f_t_now)), (a_t_covers, .inl (cI, 8, .inl f_t_covers)), (a_t_seenKnot, .inl (cI, 6, .inl f_t_seenKnot)), (a_t_seenLid, .inl (cI, 6, .inl f_t_seenLid)), (a_t_seenHad, .inl (cI, 6, .inl f_t_seenHad))] [(a_t, .inr (8, [.int k_t_knots, .ref a_t_now, .int k_t_readKnots, .ref a_t_text, .int k_t_length, .ref a_t_covers, .int R.2.1, .ref a_t_order, .ref a_t_way, .ref a_t_tried, .int k_t_acts, .int k_t_next, .ref a_t_row, .ref a_t_lids, .ref a_t_shown, .int k_t_seen, .ref a_t_seenKnot, .ref a_t_seenLid, .ref a_t_seenHad, .long k_t_seed, .ref a_t_isKept, .ref a_t_kept])), (a_t_now, .inl (cI, 100, .inl R.2.2.1)), (a_t_covers, .inl (cI, 8, .inl R.2.2.2)), (a_t_seenKnot, .inl (cI, 6, .inl f_t_seenKnot)), (a_t_seenLid, .inl (cI, 6, .inl f_t_seenLid)), (a_t_seenHad, .inl (cI, 6, .inl f_t_seenHad))] (some (.int (bI R.1))) := by
  refine kM_of cX11_mayBe 5 (some .boolean) RX11 (by decide) rfl rfl (Nat.le_of_ble_eq_true rfl) ?_
  intro p e s m below meth c A ls X hA hP hD hS hl
  have hx := X.1.1
  have hb := X.1.2.1
  have hts := X.1.2.2.2.2
  have hown := X.1.2.2.2.1
  have hK := X.2.2.2.1
  have l_180 : (.fieldLink RX11 180 "CoverOrderModel" "seen" "I" : Cond).before _ s = true := hts _ (List.mem_of_getElem? (i := 1) (by decide +kernel))
  have i_X11 : ∀ w ∈ u_ws RX11 TX11 22, w ∈ wsX11_mayBe := k_in _ [44, 45, 46, 47, 48, 49, 50, 51, 52, 53, 54, 55, 56, 57, 58, 59, 60, 61, 62, 63, 64, 65] (by decide +kernel)
  have l_41 : (.fieldLink RX11 41 "CoverOrderModel" "seenKnot" "[I" : Cond).before _ s = true := hts _ (List.mem_of_getElem? (i := 2) (by decide +kernel))
  have l_44 : (.fieldLink RX11 44 "CoverOrderModel" "seenLid" "[I" : Cond).before _ s = true := hts _ (List.mem_of_getElem? (i := 3) (by decide +kernel))
  have l_47 : (.fieldLink RX11 47 "CoverOrderModel" "seenHad" "[I" : Cond).before _ s = true := hts _ (List.mem_of_getElem? (i := 4) (by decide +kernel))
  have hl : lv_has ls 5 [(0, .ref a_t), (1, .int p1), (2, .int p2)] := hl
  rw [mX11_mayBe] at hm
  refine lv_aload_n hx hb dX11_mayBe_0 rfl (lv_at hl 0 rfl) ?_
  obtain ⟨r1, hc1, hm⟩ := kbind hm
  refine kcV (ws1 := [(a_t, .inr (8, [.int k_t_knots, .ref a_t_now, .int k_t_readKnots, .ref a_t_text, .int k_t_length, .ref a_t_covers, .int k_t_reached, .ref a_t_order, .ref a_t_way, .ref a_t_tried, .int k_t_acts, .int k_t_next, .ref a_t_row, .ref a_t_lids, .ref a_t_shown, .int k_t_seen, .ref a_t_seenKnot, .ref a_t_seenLid, .ref a_t_seenHad, .long k_t_seed, .ref a_t_isKept, .ref a_t_kept])), (a_t_now, .inl (cI, 100, .inl r1)), (a_t_covers, .inl (cI, 8, .inl f_t_covers)), (a_t_seenKnot, .inl (cI, 6, .inl f_t_seenKnot)), (a_t_seenLid, .inl (cI, 6, .inl f_t_seenLid)), (a_t_seenHad, .inl (cI, 6, .inl f_t_seenHad))]) (st1 := []) X hA (c_X11_layTrial l G cI cZ cE a_t a_t_now a_t_text a_t_covers a_t_order a_t_way a_t_tried a_t_row a_t_lids a_t_shown a_t_seenKnot a_t_seenLid a_t_seenHad a_t_isKept a_t_kept k_t_knots k_t_readKnots k_t_length k_t_reached k_t_acts k_t_next k_t_seen k_t_seed f_t_now r1 hc1) (cwV 0 hts gX11_mayBe_X11_layTrial rfl rfl rfl hd_X11_layTrial ⟨Nat.le_of_ble_eq_true rfl, Nat.le_of_ble_eq_true rfl⟩) 0 8 rfl rfl hl.1 dX11_mayBe_1 hP hD hS [0, 1] rfl rfl rfl rfl rfl [] rfl (Nat.le_of_ble_eq_true rfl) rfl ⟨Nat.zero_le _, Nat.zero_le _⟩ (fun H locs hP hD hS => ?_)
  refine lv_aload_n hx hb dX11_mayBe_4 rfl (lv_at hl 0 rfl) ?_
  refine lv_iconst (v := 1) hx hb dX11_mayBe_5 (by decide) ?_
  refine lv_iload_n hx hb dX11_mayBe_6 rfl (lv_at hl 1 rfl) ?_
  refine lv_iload_n hx hb dX11_mayBe_7 rfl (lv_at hl 2 rfl) ?_
  obtain ⟨r8, hc8, hm⟩ := kbind hm
  refine kcV (ws1 := [(a_t, .inr (8, [.int k_t_knots, .ref a_t_now, .int k_t_readKnots, .ref a_t_text, .int k_t_length, .ref a_t_covers, .int k_t_reached, .ref a_t_order, .ref a_t_way, .ref a_t_tried, .int k_t_acts, .int k_t_next, .ref a_t_row, .ref a_t_lids, .ref a_t_shown, .int k_t_seen, .ref a_t_seenKnot, .ref a_t_seenLid, .ref a_t_seenHad, .long k_t_seed, .ref a_t_isKept, .ref a_t_kept])), (a_t_now, .inl (cI, 100, .inl r8)), (a_t_covers, .inl (cI, 8, .inl f_t_covers)), (a_t_seenKnot, .inl (cI, 6, .inl f_t_seenKnot)), (a_t_seenLid, .inl (cI, 6, .inl f_t_seenLid)), (a_t_seenHad, .inl (cI, 6, .inl f_t_seenHad))]) (st1 := []) X hA (c_X11_insertOn l G cI cZ cE a_t a_t_now a_t_text a_t_covers a_t_order a_t_way a_t_tried a_t_row a_t_lids a_t_shown a_t_seenKnot a_t_seenLid a_t_seenHad a_t_isKept a_t_kept k_t_knots k_t_readKnots k_t_length k_t_reached k_t_acts k_t_next k_t_seen k_t_seed r1 1 p1 p2 r8 hc8) (cwV 3 hts gX11_mayBe_X11_insertOn rfl rfl rfl hd_X11_insertOn ⟨Nat.le_of_ble_eq_true rfl, Nat.le_of_ble_eq_true rfl⟩) 0 8 rfl rfl hl.1 dX11_mayBe_8 hP hD hS [0, 1] rfl rfl rfl rfl rfl [] rfl (Nat.le_of_ble_eq_true rfl) rfl ⟨Nat.zero_le _, Nat.zero_le _⟩ (fun H locs hP hD hS => ?_)
  refine lv_aload_n hx hb dX11_mayBe_11 rfl (lv_at hl 0 rfl) ?_
  refine lv_iconst (v := 1) hx hb dX11_mayBe_12 (by decide) ?_
  obtain ⟨r13, hc13, hm⟩ := kbind hm
  refine kcV (ws1 := [(a_t, .inr (8, [.int k_t_knots, .ref a_t_now, .int k_t_readKnots, .ref a_t_text, .int k_t_length, .ref a_t_covers, .int r13.1, .ref a_t_order, .ref a_t_way, .ref a_t_tried, .int k_t_acts, .int k_t_next, .ref a_t_row, .ref a_t_lids, .ref a_t_shown, .int k_t_seen, .ref a_t_seenKnot, .ref a_t_seenLid, .ref a_t_seenHad, .long k_t_seed, .ref a_t_isKept, .ref a_t_kept])), (a_t_now, .inl (cI, 100, .inl r8)), (a_t_covers, .inl (cI, 8, .inl r13.2)), (a_t_seenKnot, .inl (cI, 6, .inl f_t_seenKnot)), (a_t_seenLid, .inl (cI, 6, .inl f_t_seenLid)), (a_t_seenHad, .inl (cI, 6, .inl f_t_seenHad))]) (st1 := []) X hA (c_X11_findCovers l G cI cZ cE a_t a_t_now a_t_text a_t_covers a_t_order a_t_way a_t_tried a_t_row a_t_lids a_t_shown a_t_seenKnot a_t_seenLid a_t_seenHad a_t_isKept a_t_kept k_t_knots k_t_readKnots k_t_length k_t_reached k_t_acts k_t_next k_t_seen k_t_seed r8 f_t_covers 1 r13 hc13) (cwV 1 hts gX11_mayBe_X11_findCovers rfl rfl rfl hd_X11_findCovers ⟨Nat.le_of_ble_eq_true rfl, Nat.le_of_ble_eq_true rfl⟩) 0 8 rfl rfl hl.1 dX11_mayBe_13 hP hD hS [0, 1, 2] rfl rfl rfl rfl rfl [] rfl (Nat.le_of_ble_eq_true rfl) rfl ⟨Nat.zero_le _, Nat.zero_le _⟩ (fun H locs hP hD hS => ?_)
  refine lv_iconst (v := 1) hx hb dX11_mayBe_16 (by decide) ?_
  refine lv_istore_n (lv' := [(3, .int 1), (0, .ref a_t), (1, .int p1), (2, .int p2)]) hx hb dX11_mayBe_17 rfl hl (by decide) rfl (fun ls hl => ?_)
  refine lv_iconst (v := 0) hx hb dX11_mayBe_18 (by decide) ?_
  refine lv_istore (lv' := [(4, .int 0), (3, .int 1), (0, .ref a_t), (1, .int p1), (2, .int p2)]) hx hb dX11_mayBe_19 hl (by decide) rfl (fun ls hl => ?_)
  have h21 : ∀ (n21 : Nat), ∀ (v21_3 : Bool) (v21_4 : Int32) (H : Heap) (locs : List Loc) (ls : Array Slot), va_P G vwCl [(a_t, .inr (8, [.int k_t_knots, .ref a_t_now, .int k_t_readKnots, .ref a_t_text, .int k_t_length, .ref a_t_covers, .int r13.1, .ref a_t_order, .ref a_t_way, .ref a_t_tried, .int k_t_acts, .int k_t_next, .ref a_t_row, .ref a_t_lids, .ref a_t_shown, .int k_t_seen, .ref a_t_seenKnot, .ref a_t_seenLid, .ref a_t_seenHad, .long k_t_seed, .ref a_t_isKept, .ref a_t_kept])), (a_t_now, .inl (cI, 100, .inl r8)), (a_t_covers, .inl (cI, 8, .inl r13.2)), (a_t_seenKnot, .inl (cI, 6, .inl f_t_seenKnot)), (a_t_seenLid, .inl (cI, 6, .inl f_t_seenLid)), (a_t_seenHad, .inl (cI, 6, .inl f_t_seenHad))] H → va_D A [(a_t, .inr (8, [.int k_t_knots, .ref a_t_now, .int k_t_readKnots, .ref a_t_text, .int k_t_length, .ref a_t_covers, .int r13.1, .ref a_t_order, .ref a_t_way, .ref a_t_tried, .int k_t_acts, .int k_t_next, .ref a_t_row, .ref a_t_lids, .ref a_t_shown, .int k_t_seen, .ref a_t_seenKnot, .ref a_t_seenLid, .ref a_t_seenHad, .long k_t_seed, .ref a_t_isKept, .ref a_t_kept])), (a_t_now, .inl (cI, 100, .inl r8)), (a_t_covers, .inl (cI, 8, .inl r13.2)), (a_t_seenKnot, .inl (cI, 6, .inl f_t_seenKnot)), (a_t_seenLid, .inl (cI, 6, .inl f_t_seenLid)), (a_t_seenHad, .inl (cI, 6, .inl f_t_seenHad))] → va_S A s.heap H locs → lv_has ls 5 [(0, .ref a_t), (3, .int (bI v21_3)), (4, .int v21_4)] → mX11_mayBe_L21 k_t_seen f_t_seenKnot f_t_seenLid f_t_seenHad r8 r13 n21 v21_3 v21_4 = some R → W p l e { frames := 3, cells := 0, slots := 0, locals := 77 } s m ([.ref a_t, .int p1, .int p2] : List Value).toArray below meth c H locs 0 0 (kQ below G [(a_t, .inr (8, [.int k_t_knots, .ref a_t_now, .int k_t_readKnots, .ref a_t_text, .int k_t_length, .ref a_t_covers, .int R.2.1, .ref a_t_order, .ref a_t_way, .ref a_t_tried, .int k_t_acts, .int k_t_next, .ref a_t_row, .ref a_t_lids, .ref a_t_shown, .int k_t_seen, .ref a_t_seenKnot, .ref a_t_seenLid, .ref a_t_seenHad, .long k_t_seed, .ref a_t_isKept, .ref a_t_kept])), (a_t_now, .inl (cI, 100, .inl R.2.2.1)), (a_t_covers, .inl (cI, 8, .inl R.2.2.2)), (a_t_seenKnot, .inl (cI, 6, .inl f_t_seenKnot)), (a_t_seenLid, .inl (cI, 6, .inl f_t_seenLid)), (a_t_seenHad, .inl (cI, 6, .inl f_t_seenHad))] (some (.int (bI R.1))) A ([.ref a_t, .int p1, .int p2] : List Value).toArray s) (F0 m 21 ls []) := by
    intro n21
    induction n21 with
    | zero => intro v21_3 v21_4 H locs ls hP hD hS hl hm; rw [mX11_mayBe_L21] at hm; cases hm
    | succ n21 ih21 =>
      intro v21_3 v21_4 H locs ls hP hD hS hl hm
      rw [mX11_mayBe_L21] at hm
      refine lv_iload hx hb dX11_mayBe_21 (lv_at hl 2 rfl) ?_
      refine lv_aload_n hx hb dX11_mayBe_23 rfl (lv_at hl 0 rfl) ?_
      refine va_get (D := G) (ci := 8) (v := .int k_t_seen) (C := RX11) (T := TX11) (N := 22) hx hb hts i_X11 hown hK hP 0 rfl rfl 15 (by decide) l_180 (fun _ h9 => h9) rfl dX11_mayBe_24 ?_
      refine lv_icmp_ge (tgt := 91) hx hb dX11_mayBe_27 (by decide) (fun c27 => ?_) (fun c27 => ?_)
      · rw [if_pos c27] at hm
        refine lv_iload_n hx hb dX11_mayBe_91 rfl (lv_at hl 1 rfl) ?_
        have hm := Option.some.inj hm
        subst hm
        exact k_zret (v := v21_3) X rfl dX11_mayBe_92 hP hD hS
      · rw [if_neg c27] at hm
        refine lv_iload_n hx hb dX11_mayBe_30 rfl (lv_at hl 1 rfl) ?_
        refine lv_if_eq (tgt := 83) hx hb dX11_mayBe_31 (by decide) (fun c31 => ?_) (fun c31 => ?_)
        · have c31 := kb0 c31
          rw [if_neg c31] at hm
          refine lv_iconst (v := 0) hx hb dX11_mayBe_83 (by decide) ?_
          refine lv_istore_n (lv' := [(3, .int 0), (0, .ref a_t), (4, .int v21_4)]) hx hb dX11_mayBe_84 rfl hl (by decide) rfl (fun ls hl => ?_)
          refine lv_iinc (v := v21_4 + 1) (lv' := [(4, .int (v21_4 + 1)), (3, .int 0), (0, .ref a_t)]) hx hb dX11_mayBe_85 hl (k := 2) rfl rfl (by decide) rfl (fun ls hl => ?_)
          refine lv_goto (tgt := 21) hx hb dX11_mayBe_88 (by decide) ?_
          exact ih21 false (v21_4 + 1) _ _ _ hP hD hS (lv_sub hl [2, 1, 0] rfl) hm
        · have c31 := kb1 c31
          rw [if_pos c31] at hm
          refine lv_aload_n hx hb dX11_mayBe_34 rfl (lv_at hl 0 rfl) ?_
          refine lv_aload_n hx hb dX11_mayBe_35 rfl (lv_at hl 0 rfl) ?_
          refine va_get (D := G) (ci := 8) (v := .ref a_t_seenKnot) (C := RX11) (T := TX11) (N := 22) hx hb hts i_X11 hown hK hP 0 rfl rfl 16 (by decide) l_41 (fun _ h9 => h9) rfl dX11_mayBe_36 ?_
          refine lv_iload hx hb dX11_mayBe_39 (lv_at hl 2 rfl) ?_
          obtain ⟨g41, hm⟩ := gd_some hm
          refine va_iald hx hb hK hP 3 0 rfl rfl (kin_ok g41) dX11_mayBe_41 ?_
          obtain ⟨r42, hc42, hm⟩ := kbind hm
          refine kcV0 (st1 := [.int r42]) X hA (c_X11_lidOf l G cI cZ cE a_t a_t_now a_t_text a_t_covers a_t_order a_t_way a_t_tried a_t_row a_t_lids a_t_shown a_t_seenKnot a_t_seenLid a_t_seenHad a_t_isKept a_t_kept k_t_knots k_t_readKnots k_t_length r13.1 k_t_acts k_t_next k_t_seen k_t_seed r13.2 (f_t_seenKnot (Int32.toNatClampNeg v21_4)) r42 hc42) (cwV 1 hts gX11_mayBe_X11_lidOf rfl rfl rfl hd_X11_lidOf ⟨Nat.le_of_ble_eq_true rfl, Nat.le_of_ble_eq_true rfl⟩) 0 8 rfl rfl hl.1 dX11_mayBe_42 hP hD hS [0, 2] rfl rfl rfl [] rfl (Nat.le_of_ble_eq_true rfl) rfl ⟨Nat.zero_le _, Nat.zero_le _⟩ (fun H locs hP hD hS => ?_)
          refine lv_aload_n hx hb dX11_mayBe_45 rfl (lv_at hl 0 rfl) ?_
          refine va_get (D := G) (ci := 8) (v := .ref a_t_seenLid) (C := RX11) (T := TX11) (N := 22) hx hb hts i_X11 hown hK hP 0 rfl rfl 17 (by decide) l_44 (fun _ h9 => h9) rfl dX11_mayBe_46 ?_
          refine lv_iload hx hb dX11_mayBe_49 (lv_at hl 2 rfl) ?_
          obtain ⟨g51, hm⟩ := gd_some hm
          refine va_iald hx hb hK hP 4 0 rfl rfl (kin_ok g51) dX11_mayBe_51 ?_
          have h60 : ∀ (s60_0 : Bool) (H : Heap) (locs : List Loc) (ls : Array Slot), va_P G vwCl [(a_t, .inr (8, [.int k_t_knots, .ref a_t_now, .int k_t_readKnots, .ref a_t_text, .int k_t_length, .ref a_t_covers, .int r13.1, .ref a_t_order, .ref a_t_way, .ref a_t_tried, .int k_t_acts, .int k_t_next, .ref a_t_row, .ref a_t_lids, .ref a_t_shown, .int k_t_seen, .ref a_t_seenKnot, .ref a_t_seenLid, .ref a_t_seenHad, .long k_t_seed, .ref a_t_isKept, .ref a_t_kept])), (a_t_now, .inl (cI, 100, .inl r8)), (a_t_covers, .inl (cI, 8, .inl r13.2)), (a_t_seenKnot, .inl (cI, 6, .inl f_t_seenKnot)), (a_t_seenLid, .inl (cI, 6, .inl f_t_seenLid)), (a_t_seenHad, .inl (cI, 6, .inl f_t_seenHad))] H → va_D A [(a_t, .inr (8, [.int k_t_knots, .ref a_t_now, .int k_t_readKnots, .ref a_t_text, .int k_t_length, .ref a_t_covers, .int r13.1, .ref a_t_order, .ref a_t_way, .ref a_t_tried, .int k_t_acts, .int k_t_next, .ref a_t_row, .ref a_t_lids, .ref a_t_shown, .int k_t_seen, .ref a_t_seenKnot, .ref a_t_seenLid, .ref a_t_seenHad, .long k_t_seed, .ref a_t_isKept, .ref a_t_kept])), (a_t_now, .inl (cI, 100, .inl r8)), (a_t_covers, .inl (cI, 8, .inl r13.2)), (a_t_seenKnot, .inl (cI, 6, .inl f_t_seenKnot)), (a_t_seenLid, .inl (cI, 6, .inl f_t_seenLid)), (a_t_seenHad, .inl (cI, 6, .inl f_t_seenHad))] → va_S A s.heap H locs → lv_has ls 5 [(0, .ref a_t), (4, .int v21_4)] → mX11_mayBe_J60 (mX11_mayBe_L21 k_t_seen f_t_seenKnot f_t_seenLid f_t_seenHad r8 r13 n21) f_t_seenHad v21_4 s60_0 = some R → W p l e { frames := 3, cells := 0, slots := 0, locals := 77 } s m ([.ref a_t, .int p1, .int p2] : List Value).toArray below meth c H locs 0 0 (kQ below G [(a_t, .inr (8, [.int k_t_knots, .ref a_t_now, .int k_t_readKnots, .ref a_t_text, .int k_t_length, .ref a_t_covers, .int R.2.1, .ref a_t_order, .ref a_t_way, .ref a_t_tried, .int k_t_acts, .int k_t_next, .ref a_t_row, .ref a_t_lids, .ref a_t_shown, .int k_t_seen, .ref a_t_seenKnot, .ref a_t_seenLid, .ref a_t_seenHad, .long k_t_seed, .ref a_t_isKept, .ref a_t_kept])), (a_t_now, .inl (cI, 100, .inl R.2.2.1)), (a_t_covers, .inl (cI, 8, .inl R.2.2.2)), (a_t_seenKnot, .inl (cI, 6, .inl f_t_seenKnot)), (a_t_seenLid, .inl (cI, 6, .inl f_t_seenLid)), (a_t_seenHad, .inl (cI, 6, .inl f_t_seenHad))] (some (.int (bI R.1))) A ([.ref a_t, .int p1, .int p2] : List Value).toArray s) (F0 m 60 ls [.int (bI s60_0)]) := by
            intro s60_0 H locs ls hP hD hS hl hm
            rw [mX11_mayBe_J60] at hm
            refine lv_aload_n hx hb dX11_mayBe_60 rfl (lv_at hl 0 rfl) ?_
            refine va_get (D := G) (ci := 8) (v := .ref a_t_seenHad) (C := RX11) (T := TX11) (N := 22) hx hb hts i_X11 hown hK hP 0 rfl rfl 18 (by decide) l_47 (fun _ h9 => h9) rfl dX11_mayBe_61 ?_
            refine lv_iload hx hb dX11_mayBe_64 (lv_at hl 1 rfl) ?_
            obtain ⟨g66, hm⟩ := gd_some hm
            refine va_iald hx hb hK hP 5 0 rfl rfl (kin_ok g66) dX11_mayBe_66 ?_
            refine lv_iconst (v := 1) hx hb dX11_mayBe_67 (by decide) ?_
            have h76 : ∀ (s76_1 : Bool) (H : Heap) (locs : List Loc) (ls : Array Slot), va_P G vwCl [(a_t, .inr (8, [.int k_t_knots, .ref a_t_now, .int k_t_readKnots, .ref a_t_text, .int k_t_length, .ref a_t_covers, .int r13.1, .ref a_t_order, .ref a_t_way, .ref a_t_tried, .int k_t_acts, .int k_t_next, .ref a_t_row, .ref a_t_lids, .ref a_t_shown, .int k_t_seen, .ref a_t_seenKnot, .ref a_t_seenLid, .ref a_t_seenHad, .long k_t_seed, .ref a_t_isKept, .ref a_t_kept])), (a_t_now, .inl (cI, 100, .inl r8)), (a_t_covers, .inl (cI, 8, .inl r13.2)), (a_t_seenKnot, .inl (cI, 6, .inl f_t_seenKnot)), (a_t_seenLid, .inl (cI, 6, .inl f_t_seenLid)), (a_t_seenHad, .inl (cI, 6, .inl f_t_seenHad))] H → va_D A [(a_t, .inr (8, [.int k_t_knots, .ref a_t_now, .int k_t_readKnots, .ref a_t_text, .int k_t_length, .ref a_t_covers, .int r13.1, .ref a_t_order, .ref a_t_way, .ref a_t_tried, .int k_t_acts, .int k_t_next, .ref a_t_row, .ref a_t_lids, .ref a_t_shown, .int k_t_seen, .ref a_t_seenKnot, .ref a_t_seenLid, .ref a_t_seenHad, .long k_t_seed, .ref a_t_isKept, .ref a_t_kept])), (a_t_now, .inl (cI, 100, .inl r8)), (a_t_covers, .inl (cI, 8, .inl r13.2)), (a_t_seenKnot, .inl (cI, 6, .inl f_t_seenKnot)), (a_t_seenLid, .inl (cI, 6, .inl f_t_seenLid)), (a_t_seenHad, .inl (cI, 6, .inl f_t_seenHad))] → va_S A s.heap H locs → lv_has ls 5 [(0, .ref a_t), (4, .int v21_4)] → mX11_mayBe_J76 (mX11_mayBe_L21 k_t_seen f_t_seenKnot f_t_seenLid f_t_seenHad r8 r13 n21) v21_4 s60_0 s76_1 = some R → W p l e { frames := 3, cells := 0, slots := 0, locals := 77 } s m ([.ref a_t, .int p1, .int p2] : List Value).toArray below meth c H locs 0 0 (kQ below G [(a_t, .inr (8, [.int k_t_knots, .ref a_t_now, .int k_t_readKnots, .ref a_t_text, .int k_t_length, .ref a_t_covers, .int R.2.1, .ref a_t_order, .ref a_t_way, .ref a_t_tried, .int k_t_acts, .int k_t_next, .ref a_t_row, .ref a_t_lids, .ref a_t_shown, .int k_t_seen, .ref a_t_seenKnot, .ref a_t_seenLid, .ref a_t_seenHad, .long k_t_seed, .ref a_t_isKept, .ref a_t_kept])), (a_t_now, .inl (cI, 100, .inl R.2.2.1)), (a_t_covers, .inl (cI, 8, .inl R.2.2.2)), (a_t_seenKnot, .inl (cI, 6, .inl f_t_seenKnot)), (a_t_seenLid, .inl (cI, 6, .inl f_t_seenLid)), (a_t_seenHad, .inl (cI, 6, .inl f_t_seenHad))] (some (.int (bI R.1))) A ([.ref a_t, .int p1, .int p2] : List Value).toArray s) (F0 m 76 ls [.int (bI s76_1), .int (bI s60_0)]) := by
              intro s76_1 H locs ls hP hD hS hl hm
              rw [mX11_mayBe_J76] at hm
              refine lv_icmp_ne (tgt := 83) hx hb dX11_mayBe_76 (by decide) (fun c76 => ?_) (fun c76 => ?_)
              · rw [if_neg c76] at hm
                refine lv_iconst (v := 0) hx hb dX11_mayBe_83 (by decide) ?_
                refine lv_istore_n (lv' := [(3, .int 0), (0, .ref a_t), (4, .int v21_4)]) hx hb dX11_mayBe_84 rfl hl (by decide) rfl (fun ls hl => ?_)
                refine lv_iinc (v := v21_4 + 1) (lv' := [(4, .int (v21_4 + 1)), (3, .int 0), (0, .ref a_t)]) hx hb dX11_mayBe_85 hl (k := 2) rfl rfl (by decide) rfl (fun ls hl => ?_)
                refine lv_goto (tgt := 21) hx hb dX11_mayBe_88 (by decide) ?_
                exact ih21 false (v21_4 + 1) _ _ _ hP hD hS (lv_sub hl [2, 1, 0] rfl) hm
              · rw [if_pos c76] at hm
                refine lv_iconst (v := 1) hx hb dX11_mayBe_79 (by decide) ?_
                refine lv_goto (tgt := 84) hx hb dX11_mayBe_80 (by decide) ?_
                refine lv_istore_n (lv' := [(3, .int 1), (0, .ref a_t), (4, .int v21_4)]) hx hb dX11_mayBe_84 rfl hl (by decide) rfl (fun ls hl => ?_)
                refine lv_iinc (v := v21_4 + 1) (lv' := [(4, .int (v21_4 + 1)), (3, .int 1), (0, .ref a_t)]) hx hb dX11_mayBe_85 hl (k := 2) rfl rfl (by decide) rfl (fun ls hl => ?_)
                refine lv_goto (tgt := 21) hx hb dX11_mayBe_88 (by decide) ?_
                exact ih21 true (v21_4 + 1) _ _ _ hP hD hS (lv_sub hl [2, 1, 0] rfl) hm
            refine lv_icmp_ne (tgt := 75) hx hb dX11_mayBe_68 (by decide) (fun c68 => ?_) (fun c68 => ?_)
            · rw [if_neg c68] at hm
              refine lv_iconst (v := 0) hx hb dX11_mayBe_75 (by decide) ?_
              exact h76 false _ _ _ hP hD hS (lv_sub hl [0, 1] rfl) hm
            · rw [if_pos c68] at hm
              refine lv_iconst (v := 1) hx hb dX11_mayBe_71 (by decide) ?_
              refine lv_goto (tgt := 76) hx hb dX11_mayBe_72 (by decide) ?_
              exact h76 true _ _ _ hP hD hS (lv_sub hl [0, 1] rfl) hm
          refine lv_icmp_ne (tgt := 59) hx hb dX11_mayBe_52 (by decide) (fun c52 => ?_) (fun c52 => ?_)
          · rw [if_neg c52] at hm
            refine lv_iconst (v := 0) hx hb dX11_mayBe_59 (by decide) ?_
            exact h60 false _ _ _ hP hD hS (lv_sub hl [0, 2] rfl) hm
          · rw [if_pos c52] at hm
            refine lv_iconst (v := 1) hx hb dX11_mayBe_55 (by decide) ?_
            refine lv_goto (tgt := 60) hx hb dX11_mayBe_56 (by decide) ?_
            exact h60 true _ _ _ hP hD hS (lv_sub hl [0, 2] rfl) hm
  exact h21 kFU true 0 _ _ _ hP hD hS (lv_sub hl [2, 1, 0] rfl) hm
theorem hd_X11_mayBe : yX11_mayBe.cls = RX11 ∧ yX11_mayBe.cls ≠ "java/lang/invoke/MethodHandle" ∧ yX11_mayBe.cls ≠ "java/lang/invoke/VarHandle" ∧ (parseMethodDescriptor yX11_mayBe.desc).map (fun d => d.parameters.length) = some 2 := by decide +kernel
/-! CoverOrderModel missing -/
set_option maxRecDepth 100000 in
set_option maxHeartbeats 4000000 in
theorem c_X11_missing (l : Launch) (G : va_G) (cI cZ cE : ClassId) (a_t a_t_now a_t_text a_t_covers a_t_order a_t_way a_t_tried a_t_row a_t_lids a_t_shown a_t_seenKnot a_t_seenLid a_t_seenHad a_t_isKept a_t_kept : Nat) (k_t_knots : Int32) (k_t_readKnots : Int32) (k_t_length : Int32) (k_t_reached : Int32) (k_t_acts : Int32) (k_t_next : Int32) (k_t_seen : Int32) (k_t_seed : Int64) (f_t_now : Nat → Int32) (f_t_covers : Nat → Int32) (f_t_seenKnot : Nat → Int32) (f_t_seenLid : Nat → Int32) (f_t_seenHad : Nat → Int32) (p1 : Int32) (R : Int32 × Int32 × (Nat → Int32) × (Nat → Int32)) (hm : mX11_missing k_t_knots k_t_reached k_t_seen f_t_now f_t_covers f_t_seenKnot f_t_seenLid f_t_seenHad p1 = some R) : kM l yX11_missing wsX11_missing { frames := 4, cells := 0, slots := 0, locals := 101 } G cI cZ cE [.ref a_t, .int p1] [(a_t, .inr (8, [.int k_t_knots, .ref a_t_now, .int k_t_readKnots, .ref a_t_text, .int k_t_length, .ref a_t_covers, .int k_t_reached, .ref a_t_order, .ref a_t_way, .ref a_t_tried, .int k_t_acts, .int k_t_next, .ref a_t_row, .ref a_t_lids, .ref a_t_shown, .int k_t_seen, .ref a_t_seenKnot, .ref a_t_seenLid, .ref a_t_seenHad, .long k_t_seed, .ref a_t_isKept, .ref a_t_kept])), (a_t_now, .inl (cI, 100, .inl f_t_now)), (a_t_covers, .inl (cI, 8, .inl f_t_covers)), (a_t_seenKnot, .inl (cI, 6, .inl f_t_seenKnot)), (a_t_seenLid, .inl (cI, 6, .inl f_t_seenLid)), (a_t_seenHad, .inl (cI, 6, .inl f_t_seenHad))] [(a_t, .inr (8, [.int k_t_knots, .ref a_t_now, .int k_t_readKnots, .ref a_t_text, .int k_t_length, .ref a_t_covers, .int R.2.1, .ref a_t_order, .ref a_t_way, .ref a_t_tried, .int k_t_acts, .int k_t_next, .ref a_t_row, .ref a_t_lids, .ref a_t_shown, .int k_t_seen, .ref a_t_seenKnot, .ref a_t_seenLid, .ref a_t_seenHad, .long k_t_seed, .ref a_t_isKept, .ref a_t_kept])), (a_t_now, .inl (cI, 100, .inl R.2.2.1)), (a_t_covers, .inl (cI, 8, .inl R.2.2.2)), (a_t_seenKnot, .inl (cI, 6, .inl f_t_seenKnot)), (a_t_seenLid, .inl (cI, 6, .inl f_t_seenLid)), (a_t_seenHad, .inl (cI, 6, .inl f_t_seenHad))] (some (.int R.1)) := by
  refine kM_of cX11_missing 6 (some .int) RX11 (by decide) rfl rfl (Nat.le_of_ble_eq_true rfl) ?_
  intro p e s m below meth c A ls X hA hP hD hS hl
  have hx := X.1.1
  have hb := X.1.2.1
  have hts := X.1.2.2.2.2
  have hown := X.1.2.2.2.1
  have hK := X.2.2.2.1
  have hl : lv_has ls 6 [(0, .ref a_t), (1, .int p1)] := hl
  rw [mX11_missing] at hm
  refine lv_iload_n hx hb dX11_missing_0 rfl (lv_at hl 1 rfl) ?_
  refine lv_i2l (v := (p1 : Int32).toInt64) hx hb dX11_missing_1 rfl ?_
  refine lv_lconst (v := 0) hx hb dX11_missing_2 (by decide) ?_
  refine lv_lconst (v := 1) hx hb dX11_missing_3 (by decide) ?_
  refine kcS0 (st1 := [.int (bI (mX11_in ((p1 : Int32).toInt64) 0 1))]) X hA (c_X11_in l G cI cZ cE ((p1 : Int32).toInt64) 0 1 _ rfl) (va_cwS 3 hts gX11_missing_X11_in rfl rfl rfl hd_X11_in ⟨Nat.le_of_ble_eq_true rfl, Nat.le_of_ble_eq_true rfl⟩) hl.1 dX11_missing_4 hP hD hS [] rfl rfl rfl [] rfl (Nat.le_of_ble_eq_true rfl) rfl ⟨Nat.zero_le _, Nat.zero_le _⟩ (fun H locs hP hD hS => ?_)
  refine lv_if_ne (tgt := 13) hx hb dX11_missing_7 (by decide) (fun c7 => ?_) (fun c7 => ?_)
  · have c7 := kb1 c7
    rw [if_pos c7] at hm
    refine lv_aload_n hx hb dX11_missing_13 rfl (lv_at hl 0 rfl) ?_
    refine lv_iconst (v := 0) hx hb dX11_missing_14 (by decide) ?_
    obtain ⟨r15, hc15, hm⟩ := kbind hm
    refine kcV0 (st1 := [.int r15]) X hA (c_X11_many l G cI cZ cE a_t a_t_now a_t_text a_t_covers a_t_order a_t_way a_t_tried a_t_row a_t_lids a_t_shown a_t_seenKnot a_t_seenLid a_t_seenHad a_t_isKept a_t_kept k_t_knots k_t_readKnots k_t_length k_t_reached k_t_acts k_t_next k_t_seen k_t_seed f_t_now 0 r15 hc15) (cwV 1 hts gX11_missing_X11_many rfl rfl rfl hd_X11_many ⟨Nat.le_of_ble_eq_true rfl, Nat.le_of_ble_eq_true rfl⟩) 0 8 rfl rfl hl.1 dX11_missing_15 hP hD hS [0, 1] rfl rfl rfl [] rfl (Nat.le_of_ble_eq_true rfl) rfl ⟨Nat.zero_le _, Nat.zero_le _⟩ (fun H locs hP hD hS => ?_)
    refine lv_bipush (v := 24) hx hb dX11_missing_18 (by decide) ?_
    refine lv_icmp_ne (tgt := 26) hx hb dX11_missing_20 (by decide) (fun c20 => ?_) (fun c20 => ?_)
    · rw [if_neg c20] at hm
      refine lv_iconst (v := 0) hx hb dX11_missing_26 (by decide) ?_
      refine lv_istore_n (lv' := [(2, .int 0), (0, .ref a_t), (1, .int p1)]) hx hb dX11_missing_27 rfl hl (by decide) rfl (fun ls hl => ?_)
      refine lv_bipush (v := (-9)) hx hb dX11_missing_28 (by decide) ?_
      refine lv_istore_n (lv' := [(3, .int (-9)), (2, .int 0), (0, .ref a_t), (1, .int p1)]) hx hb dX11_missing_30 rfl hl (by decide) rfl (fun ls hl => ?_)
      refine lv_iconst (v := 0) hx hb dX11_missing_31 (by decide) ?_
      refine lv_istore (lv' := [(4, .int 0), (3, .int (-9)), (2, .int 0), (0, .ref a_t), (1, .int p1)]) hx hb dX11_missing_32 hl (by decide) rfl (fun ls hl => ?_)
      have h34 : ∀ (n34 : Nat), ∀ (v34_2 : Int32) (v34_3 : Int32) (v34_4 : Int32) (w34_k_t_reached : Int32) (w34_f_t_now : Nat → Int32) (w34_f_t_covers : Nat → Int32) (H : Heap) (locs : List Loc) (ls : Array Slot), va_P G vwCl [(a_t, .inr (8, [.int k_t_knots, .ref a_t_now, .int k_t_readKnots, .ref a_t_text, .int k_t_length, .ref a_t_covers, .int w34_k_t_reached, .ref a_t_order, .ref a_t_way, .ref a_t_tried, .int k_t_acts, .int k_t_next, .ref a_t_row, .ref a_t_lids, .ref a_t_shown, .int k_t_seen, .ref a_t_seenKnot, .ref a_t_seenLid, .ref a_t_seenHad, .long k_t_seed, .ref a_t_isKept, .ref a_t_kept])), (a_t_now, .inl (cI, 100, .inl w34_f_t_now)), (a_t_covers, .inl (cI, 8, .inl w34_f_t_covers)), (a_t_seenKnot, .inl (cI, 6, .inl f_t_seenKnot)), (a_t_seenLid, .inl (cI, 6, .inl f_t_seenLid)), (a_t_seenHad, .inl (cI, 6, .inl f_t_seenHad))] H → va_D A [(a_t, .inr (8, [.int k_t_knots, .ref a_t_now, .int k_t_readKnots, .ref a_t_text, .int k_t_length, .ref a_t_covers, .int w34_k_t_reached, .ref a_t_order, .ref a_t_way, .ref a_t_tried, .int k_t_acts, .int k_t_next, .ref a_t_row, .ref a_t_lids, .ref a_t_shown, .int k_t_seen, .ref a_t_seenKnot, .ref a_t_seenLid, .ref a_t_seenHad, .long k_t_seed, .ref a_t_isKept, .ref a_t_kept])), (a_t_now, .inl (cI, 100, .inl w34_f_t_now)), (a_t_covers, .inl (cI, 8, .inl w34_f_t_covers)), (a_t_seenKnot, .inl (cI, 6, .inl f_t_seenKnot)), (a_t_seenLid, .inl (cI, 6, .inl f_t_seenLid)), (a_t_seenHad, .inl (cI, 6, .inl f_t_seenHad))] → va_S A s.heap H locs → lv_has ls 6 [(0, .ref a_t), (1, .int p1), (2, .int v34_2), (3, .int v34_3), (4, .int v34_4)] → mX11_missing_L34 k_t_knots k_t_seen f_t_seenKnot f_t_seenLid f_t_seenHad p1 n34 v34_2 v34_3 v34_4 w34_k_t_reached w34_f_t_now w34_f_t_covers = some R → W p l e { frames := 4, cells := 0, slots := 0, locals := 101 } s m ([.ref a_t, .int p1] : List Value).toArray below meth c H locs 0 0 (kQ below G [(a_t, .inr (8, [.int k_t_knots, .ref a_t_now, .int k_t_readKnots, .ref a_t_text, .int k_t_length, .ref a_t_covers, .int R.2.1, .ref a_t_order, .ref a_t_way, .ref a_t_tried, .int k_t_acts, .int k_t_next, .ref a_t_row, .ref a_t_lids, .ref a_t_shown, .int k_t_seen, .ref a_t_seenKnot, .ref a_t_seenLid, .ref a_t_seenHad, .long k_t_seed, .ref a_t_isKept, .ref a_t_kept])), (a_t_now, .inl (cI, 100, .inl R.2.2.1)), (a_t_covers, .inl (cI, 8, .inl R.2.2.2)), (a_t_seenKnot, .inl (cI, 6, .inl f_t_seenKnot)), (a_t_seenLid, .inl (cI, 6, .inl f_t_seenLid)), (a_t_seenHad, .inl (cI, 6, .inl f_t_seenHad))] (some (.int R.1)) A ([.ref a_t, .int p1] : List Value).toArray s) (F0 m 34 ls []) := by
        intro n34
        induction n34 with
        | zero => intro v34_2 v34_3 v34_4 w34_k_t_reached w34_f_t_now w34_f_t_covers H locs ls hP hD hS hl hm; rw [mX11_missing_L34] at hm; cases hm
        | succ n34 ih34 =>
          intro v34_2 v34_3 v34_4 w34_k_t_reached w34_f_t_now w34_f_t_covers H locs ls hP hD hS hl hm
          rw [mX11_missing_L34] at hm
          refine lv_iload hx hb dX11_missing_34 (lv_at hl 4 rfl) ?_
          refine lv_bipush (v := 80) hx hb dX11_missing_36 (by decide) ?_
          refine lv_icmp_ge (tgt := 147) hx hb dX11_missing_38 (by decide) (fun c38 => ?_) (fun c38 => ?_)
          · rw [if_pos c38] at hm
            refine lv_iload_n hx hb dX11_missing_147 rfl (lv_at hl 1 rfl) ?_
            refine lv_if_ne (tgt := 155) hx hb dX11_missing_148 (by decide) (fun c148 => ?_) (fun c148 => ?_)
            · rw [if_neg c148] at hm
              refine lv_iload_n hx hb dX11_missing_155 rfl (lv_at hl 3 rfl) ?_
              have hm := Option.some.inj hm
              subst hm
              exact k_iret (v := v34_3) X rfl dX11_missing_156 hP hD hS
            · rw [if_pos c148] at hm
              refine lv_iload_n hx hb dX11_missing_151 rfl (lv_at hl 2 rfl) ?_
              refine lv_goto (tgt := 156) hx hb dX11_missing_152 (by decide) ?_
              have hm := Option.some.inj hm
              subst hm
              exact k_iret (v := v34_2) X rfl dX11_missing_156 hP hD hS
          · rw [if_neg c38] at hm
            refine lv_iload hx hb dX11_missing_41 (lv_at hl 4 rfl) ?_
            refine lv_bipush (v := 10) hx hb dX11_missing_43 (by decide) ?_
            refine lv_idiv hx hb dX11_missing_45 (by decide) ?_
            refine lv_iload hx hb dX11_missing_46 (lv_at hl 4 rfl) ?_
            refine lv_bipush (v := 10) hx hb dX11_missing_48 (by decide) ?_
            refine lv_irem hx hb dX11_missing_50 (by decide) ?_
            have h103 : ∀ (s103_0 : Bool) (H : Heap) (locs : List Loc) (ls : Array Slot), va_P G vwCl [(a_t, .inr (8, [.int k_t_knots, .ref a_t_now, .int k_t_readKnots, .ref a_t_text, .int k_t_length, .ref a_t_covers, .int w34_k_t_reached, .ref a_t_order, .ref a_t_way, .ref a_t_tried, .int k_t_acts, .int k_t_next, .ref a_t_row, .ref a_t_lids, .ref a_t_shown, .int k_t_seen, .ref a_t_seenKnot, .ref a_t_seenLid, .ref a_t_seenHad, .long k_t_seed, .ref a_t_isKept, .ref a_t_kept])), (a_t_now, .inl (cI, 100, .inl w34_f_t_now)), (a_t_covers, .inl (cI, 8, .inl w34_f_t_covers)), (a_t_seenKnot, .inl (cI, 6, .inl f_t_seenKnot)), (a_t_seenLid, .inl (cI, 6, .inl f_t_seenLid)), (a_t_seenHad, .inl (cI, 6, .inl f_t_seenHad))] H → va_D A [(a_t, .inr (8, [.int k_t_knots, .ref a_t_now, .int k_t_readKnots, .ref a_t_text, .int k_t_length, .ref a_t_covers, .int w34_k_t_reached, .ref a_t_order, .ref a_t_way, .ref a_t_tried, .int k_t_acts, .int k_t_next, .ref a_t_row, .ref a_t_lids, .ref a_t_shown, .int k_t_seen, .ref a_t_seenKnot, .ref a_t_seenLid, .ref a_t_seenHad, .long k_t_seed, .ref a_t_isKept, .ref a_t_kept])), (a_t_now, .inl (cI, 100, .inl w34_f_t_now)), (a_t_covers, .inl (cI, 8, .inl w34_f_t_covers)), (a_t_seenKnot, .inl (cI, 6, .inl f_t_seenKnot)), (a_t_seenLid, .inl (cI, 6, .inl f_t_seenLid)), (a_t_seenHad, .inl (cI, 6, .inl f_t_seenHad))] → va_S A s.heap H locs → lv_has ls 6 [(0, .ref a_t), (1, .int p1), (2, .int v34_2), (3, .int v34_3), (4, .int v34_4)] → mX11_missing_J103 (mX11_missing_L34 k_t_knots k_t_seen f_t_seenKnot f_t_seenLid f_t_seenHad p1 n34) k_t_seen f_t_seenKnot f_t_seenLid f_t_seenHad v34_2 v34_3 v34_4 w34_k_t_reached w34_f_t_now w34_f_t_covers s103_0 = some R → W p l e { frames := 4, cells := 0, slots := 0, locals := 101 } s m ([.ref a_t, .int p1] : List Value).toArray below meth c H locs 0 0 (kQ below G [(a_t, .inr (8, [.int k_t_knots, .ref a_t_now, .int k_t_readKnots, .ref a_t_text, .int k_t_length, .ref a_t_covers, .int R.2.1, .ref a_t_order, .ref a_t_way, .ref a_t_tried, .int k_t_acts, .int k_t_next, .ref a_t_row, .ref a_t_lids, .ref a_t_shown, .int k_t_seen, .ref a_t_seenKnot, .ref a_t_seenLid, .ref a_t_seenHad, .long k_t_seed, .ref a_t_isKept, .ref a_t_kept])), (a_t_now, .inl (cI, 100, .inl R.2.2.1)), (a_t_covers, .inl (cI, 8, .inl R.2.2.2)), (a_t_seenKnot, .inl (cI, 6, .inl f_t_seenKnot)), (a_t_seenLid, .inl (cI, 6, .inl f_t_seenLid)), (a_t_seenHad, .inl (cI, 6, .inl f_t_seenHad))] (some (.int R.1)) A ([.ref a_t, .int p1] : List Value).toArray s) (F0 m 103 ls [.int (bI s103_0)]) := by
              intro s103_0 H locs ls hP hD hS hl hm
              rw [mX11_missing_J103] at hm
              refine lv_istore (lv' := [(5, .int (bI s103_0)), (0, .ref a_t), (1, .int p1), (2, .int v34_2), (3, .int v34_3), (4, .int v34_4)]) hx hb dX11_missing_103 hl (by decide) rfl (fun ls hl => ?_)
              refine lv_iload hx hb dX11_missing_105 (lv_at hl 0 rfl) ?_
              refine lv_if_eq (tgt := 141) hx hb dX11_missing_107 (by decide) (fun c107 => ?_) (fun c107 => ?_)
              · have c107 := kb0 c107
                rw [if_neg c107] at hm
                refine lv_iinc (v := v34_4 + 1) (lv' := [(4, .int (v34_4 + 1)), (5, .int (bI s103_0)), (0, .ref a_t), (1, .int p1), (2, .int v34_2), (3, .int v34_3)]) hx hb dX11_missing_141 hl (k := 5) rfl rfl (by decide) rfl (fun ls hl => ?_)
                refine lv_goto (tgt := 34) hx hb dX11_missing_144 (by decide) ?_
                exact ih34 v34_2 v34_3 (v34_4 + 1) w34_k_t_reached w34_f_t_now w34_f_t_covers _ _ _ hP hD hS (lv_sub hl [2, 3, 4, 5, 0] rfl) hm
              · have c107 := kb1 c107
                rw [if_pos c107] at hm
                refine lv_aload_n hx hb dX11_missing_110 rfl (lv_at hl 1 rfl) ?_
                refine lv_iload hx hb dX11_missing_111 (lv_at hl 5 rfl) ?_
                refine lv_bipush (v := 10) hx hb dX11_missing_113 (by decide) ?_
                refine lv_idiv hx hb dX11_missing_115 (by decide) ?_
                refine lv_iload hx hb dX11_missing_116 (lv_at hl 5 rfl) ?_
                refine lv_bipush (v := 10) hx hb dX11_missing_118 (by decide) ?_
                refine lv_irem hx hb dX11_missing_120 (by decide) ?_
                obtain ⟨r121, hc121, hm⟩ := kbind hm
                refine kcV (ws1 := [(a_t, .inr (8, [.int k_t_knots, .ref a_t_now, .int k_t_readKnots, .ref a_t_text, .int k_t_length, .ref a_t_covers, .int r121.2.1, .ref a_t_order, .ref a_t_way, .ref a_t_tried, .int k_t_acts, .int k_t_next, .ref a_t_row, .ref a_t_lids, .ref a_t_shown, .int k_t_seen, .ref a_t_seenKnot, .ref a_t_seenLid, .ref a_t_seenHad, .long k_t_seed, .ref a_t_isKept, .ref a_t_kept])), (a_t_now, .inl (cI, 100, .inl r121.2.2.1)), (a_t_covers, .inl (cI, 8, .inl r121.2.2.2)), (a_t_seenKnot, .inl (cI, 6, .inl f_t_seenKnot)), (a_t_seenLid, .inl (cI, 6, .inl f_t_seenLid)), (a_t_seenHad, .inl (cI, 6, .inl f_t_seenHad))]) (st1 := [.int (bI r121.1)]) X hA (c_X11_mayBe l G cI cZ cE a_t a_t_now a_t_text a_t_covers a_t_order a_t_way a_t_tried a_t_row a_t_lids a_t_shown a_t_seenKnot a_t_seenLid a_t_seenHad a_t_isKept a_t_kept k_t_knots k_t_readKnots k_t_length w34_k_t_reached k_t_acts k_t_next k_t_seen k_t_seed w34_f_t_now w34_f_t_covers f_t_seenKnot f_t_seenLid f_t_seenHad (v34_4 / 10) (v34_4 - v34_4 / 10 * 10) r121 hc121) (cwV 2 hts gX11_missing_X11_mayBe rfl rfl rfl hd_X11_mayBe ⟨Nat.le_of_ble_eq_true rfl, Nat.le_of_ble_eq_true rfl⟩) 0 8 rfl rfl hl.1 dX11_missing_121 hP hD hS [0, 1, 2, 3, 4, 5] rfl rfl rfl rfl rfl [] rfl (Nat.le_of_ble_eq_true rfl) rfl ⟨Nat.zero_le _, Nat.zero_le _⟩ (fun H locs hP hD hS => ?_)
                refine lv_if_eq (tgt := 141) hx hb dX11_missing_124 (by decide) (fun c124 => ?_) (fun c124 => ?_)
                · have c124 := kb0 c124
                  rw [if_neg c124] at hm
                  refine lv_iinc (v := v34_4 + 1) (lv' := [(4, .int (v34_4 + 1)), (5, .int (bI s103_0)), (0, .ref a_t), (1, .int p1), (2, .int v34_2), (3, .int v34_3)]) hx hb dX11_missing_141 hl (k := 5) rfl rfl (by decide) rfl (fun ls hl => ?_)
                  refine lv_goto (tgt := 34) hx hb dX11_missing_144 (by decide) ?_
                  exact ih34 v34_2 v34_3 (v34_4 + 1) r121.2.1 r121.2.2.1 r121.2.2.2 _ _ _ hP hD hS (lv_sub hl [2, 3, 4, 5, 0] rfl) hm
                · have c124 := kb1 c124
                  rw [if_pos c124] at hm
                  refine lv_iload_n hx hb dX11_missing_127 rfl (lv_at hl 3 rfl) ?_
                  refine lv_if_ne (tgt := 136) hx hb dX11_missing_128 (by decide) (fun c128 => ?_) (fun c128 => ?_)
                  · rw [if_neg c128] at hm
                    refine lv_iload_n hx hb dX11_missing_136 rfl (lv_at hl 4 rfl) ?_
                    refine lv_istore_n (lv' := [(3, .int v34_3), (5, .int (bI s103_0)), (0, .ref a_t), (1, .int p1), (2, .int v34_2), (4, .int v34_4)]) hx hb dX11_missing_137 rfl hl (by decide) rfl (fun ls hl => ?_)
                    refine lv_iinc (v := v34_2 + 1) (lv' := [(2, .int (v34_2 + 1)), (3, .int v34_3), (5, .int (bI s103_0)), (0, .ref a_t), (1, .int p1), (4, .int v34_4)]) hx hb dX11_missing_138 hl (k := 4) rfl rfl (by decide) rfl (fun ls hl => ?_)
                    refine lv_iinc (v := v34_4 + 1) (lv' := [(4, .int (v34_4 + 1)), (2, .int (v34_2 + 1)), (3, .int v34_3), (5, .int (bI s103_0)), (0, .ref a_t), (1, .int p1)]) hx hb dX11_missing_141 hl (k := 5) rfl rfl (by decide) rfl (fun ls hl => ?_)
                    refine lv_goto (tgt := 34) hx hb dX11_missing_144 (by decide) ?_
                    exact ih34 (v34_2 + 1) v34_3 (v34_4 + 1) r121.2.1 r121.2.2.1 r121.2.2.2 _ _ _ hP hD hS (lv_sub hl [4, 5, 1, 2, 0] rfl) hm
                  · rw [if_pos c128] at hm
                    refine lv_iload hx hb dX11_missing_131 (lv_at hl 5 rfl) ?_
                    refine lv_goto (tgt := 137) hx hb dX11_missing_133 (by decide) ?_
                    refine lv_istore_n (lv' := [(3, .int v34_4), (5, .int (bI s103_0)), (0, .ref a_t), (1, .int p1), (2, .int v34_2), (4, .int v34_4)]) hx hb dX11_missing_137 rfl hl (by decide) rfl (fun ls hl => ?_)
                    refine lv_iinc (v := v34_2 + 1) (lv' := [(2, .int (v34_2 + 1)), (3, .int v34_4), (5, .int (bI s103_0)), (0, .ref a_t), (1, .int p1), (4, .int v34_4)]) hx hb dX11_missing_138 hl (k := 4) rfl rfl (by decide) rfl (fun ls hl => ?_)
                    refine lv_iinc (v := v34_4 + 1) (lv' := [(4, .int (v34_4 + 1)), (2, .int (v34_2 + 1)), (3, .int v34_4), (5, .int (bI s103_0)), (0, .ref a_t), (1, .int p1)]) hx hb dX11_missing_141 hl (k := 5) rfl rfl (by decide) rfl (fun ls hl => ?_)
                    refine lv_goto (tgt := 34) hx hb dX11_missing_144 (by decide) ?_
                    exact ih34 (v34_2 + 1) v34_4 (v34_4 + 1) r121.2.1 r121.2.2.1 r121.2.2.2 _ _ _ hP hD hS (lv_sub hl [4, 5, 1, 2, 0] rfl) hm
            refine lv_icmp_eq (tgt := 102) hx hb dX11_missing_51 (by decide) (fun c51 => ?_) (fun c51 => ?_)
            · rw [if_pos c51] at hm
              refine lv_iconst (v := 0) hx hb dX11_missing_102 (by decide) ?_
              exact h103 false _ _ _ hP hD hS (lv_sub hl [0, 1, 2, 3, 4] rfl) hm
            · rw [if_neg c51] at hm
              refine lv_aload_n hx hb dX11_missing_54 rfl (lv_at hl 0 rfl) ?_
              refine lv_iload hx hb dX11_missing_55 (lv_at hl 4 rfl) ?_
              refine lv_bipush (v := 10) hx hb dX11_missing_57 (by decide) ?_
              refine lv_idiv hx hb dX11_missing_59 (by decide) ?_
              refine kcV0 (st1 := [.int (bI (mX11_isKnot k_t_knots (v34_4 / 10)))]) X hA (c_X11_isKnot l G cI cZ cE a_t a_t_now a_t_text a_t_covers a_t_order a_t_way a_t_tried a_t_row a_t_lids a_t_shown a_t_seenKnot a_t_seenLid a_t_seenHad a_t_isKept a_t_kept k_t_knots k_t_readKnots k_t_length w34_k_t_reached k_t_acts k_t_next k_t_seen k_t_seed (v34_4 / 10) _ rfl) (cwV 1 hts gX11_missing_X11_isKnot rfl rfl rfl hd_X11_isKnot ⟨Nat.le_of_ble_eq_true rfl, Nat.le_of_ble_eq_true rfl⟩) 0 8 rfl rfl hl.1 dX11_missing_60 hP hD hS [0] rfl rfl rfl [] rfl (Nat.le_of_ble_eq_true rfl) rfl ⟨Nat.zero_le _, Nat.zero_le _⟩ (fun H locs hP hD hS => ?_)
              refine lv_if_eq (tgt := 102) hx hb dX11_missing_63 (by decide) (fun c63 => ?_) (fun c63 => ?_)
              · have c63 := kb0 c63
                rw [if_neg c63] at hm
                refine lv_iconst (v := 0) hx hb dX11_missing_102 (by decide) ?_
                exact h103 false _ _ _ hP hD hS (lv_sub hl [0, 1, 2, 3, 4] rfl) hm
              · have c63 := kb1 c63
                rw [if_pos c63] at hm
                refine lv_aload_n hx hb dX11_missing_66 rfl (lv_at hl 0 rfl) ?_
                refine lv_iload hx hb dX11_missing_67 (lv_at hl 4 rfl) ?_
                refine lv_bipush (v := 10) hx hb dX11_missing_69 (by decide) ?_
                refine lv_irem hx hb dX11_missing_71 (by decide) ?_
                refine kcV0 (st1 := [.int (bI (mX11_isKnot k_t_knots (v34_4 - v34_4 / 10 * 10)))]) X hA (c_X11_isKnot l G cI cZ cE a_t a_t_now a_t_text a_t_covers a_t_order a_t_way a_t_tried a_t_row a_t_lids a_t_shown a_t_seenKnot a_t_seenLid a_t_seenHad a_t_isKept a_t_kept k_t_knots k_t_readKnots k_t_length w34_k_t_reached k_t_acts k_t_next k_t_seen k_t_seed (v34_4 - v34_4 / 10 * 10) _ rfl) (cwV 1 hts gX11_missing_X11_isKnot rfl rfl rfl hd_X11_isKnot ⟨Nat.le_of_ble_eq_true rfl, Nat.le_of_ble_eq_true rfl⟩) 0 8 rfl rfl hl.1 dX11_missing_72 hP hD hS [0] rfl rfl rfl [] rfl (Nat.le_of_ble_eq_true rfl) rfl ⟨Nat.zero_le _, Nat.zero_le _⟩ (fun H locs hP hD hS => ?_)
                refine lv_if_eq (tgt := 102) hx hb dX11_missing_75 (by decide) (fun c75 => ?_) (fun c75 => ?_)
                · have c75 := kb0 c75
                  rw [if_neg c75] at hm
                  refine lv_iconst (v := 0) hx hb dX11_missing_102 (by decide) ?_
                  exact h103 false _ _ _ hP hD hS (lv_sub hl [0, 1, 2, 3, 4] rfl) hm
                · have c75 := kb1 c75
                  rw [if_pos c75] at hm
                  refine lv_aload_n hx hb dX11_missing_78 rfl (lv_at hl 0 rfl) ?_
                  refine lv_iconst (v := 0) hx hb dX11_missing_79 (by decide) ?_
                  refine lv_iload hx hb dX11_missing_80 (lv_at hl 4 rfl) ?_
                  refine lv_bipush (v := 10) hx hb dX11_missing_82 (by decide) ?_
                  refine lv_idiv hx hb dX11_missing_84 (by decide) ?_
                  refine lv_iload hx hb dX11_missing_85 (lv_at hl 4 rfl) ?_
                  refine lv_bipush (v := 10) hx hb dX11_missing_87 (by decide) ?_
                  refine lv_irem hx hb dX11_missing_89 (by decide) ?_
                  obtain ⟨r90, hc90, hm⟩ := kbind hm
                  refine kcV0 (st1 := [.int r90]) X hA (c_X11_find l G cI cZ cE a_t a_t_now a_t_text a_t_covers a_t_order a_t_way a_t_tried a_t_row a_t_lids a_t_shown a_t_seenKnot a_t_seenLid a_t_seenHad a_t_isKept a_t_kept k_t_knots k_t_readKnots k_t_length w34_k_t_reached k_t_acts k_t_next k_t_seen k_t_seed w34_f_t_now 0 (v34_4 / 10) (v34_4 - v34_4 / 10 * 10) r90 hc90) (cwV 3 hts gX11_missing_X11_find rfl rfl rfl hd_X11_find ⟨Nat.le_of_ble_eq_true rfl, Nat.le_of_ble_eq_true rfl⟩) 0 8 rfl rfl hl.1 dX11_missing_90 hP hD hS [0, 1] rfl rfl rfl [] rfl (Nat.le_of_ble_eq_true rfl) rfl ⟨Nat.zero_le _, Nat.zero_le _⟩ (fun H locs hP hD hS => ?_)
                  refine lv_bipush (v := (-9)) hx hb dX11_missing_93 (by decide) ?_
                  refine lv_icmp_ne (tgt := 102) hx hb dX11_missing_95 (by decide) (fun c95 => ?_) (fun c95 => ?_)
                  · rw [if_neg c95] at hm
                    refine lv_iconst (v := 0) hx hb dX11_missing_102 (by decide) ?_
                    exact h103 false _ _ _ hP hD hS (lv_sub hl [0, 1, 2, 3, 4] rfl) hm
                  · rw [if_pos c95] at hm
                    refine lv_iconst (v := 1) hx hb dX11_missing_98 (by decide) ?_
                    refine lv_goto (tgt := 103) hx hb dX11_missing_99 (by decide) ?_
                    exact h103 true _ _ _ hP hD hS (lv_sub hl [0, 1, 2, 3, 4] rfl) hm
      exact h34 kFU 0 (-9) 0 k_t_reached f_t_now f_t_covers _ _ _ hP hD hS (lv_sub hl [3, 4, 2, 1, 0] rfl) hm
    · rw [if_pos c20] at hm
      refine lv_bipush (v := (-4)) hx hb dX11_missing_23 (by decide) ?_
      have hm := Option.some.inj hm
      subst hm
      exact k_iret (v := (-4)) X rfl dX11_missing_25 hP hD hS
  · have c7 := kb0 c7
    rw [if_neg c7] at hm
    refine lv_bipush (v := (-2)) hx hb dX11_missing_10 (by decide) ?_
    have hm := Option.some.inj hm
    subst hm
    exact k_iret (v := (-2)) X rfl dX11_missing_12 hP hD hS
theorem hd_X11_missing : yX11_missing.cls = RX11 ∧ yX11_missing.cls ≠ "java/lang/invoke/MethodHandle" ∧ yX11_missing.cls ≠ "java/lang/invoke/VarHandle" ∧ (parseMethodDescriptor yX11_missing.desc).map (fun d => d.parameters.length) = some 1 := by decide +kernel
/-! CoverOrderModel factorial -/
set_option maxRecDepth 100000 in
set_option maxHeartbeats 4000000 in
theorem c_X11_factorial (l : Launch) (G : va_G) (cI cZ cE : ClassId) (p0 : Int32) (R : Int32) (hm : mX11_factorial p0 = some R) : kM l yX11_factorial wsX11_factorial { frames := 0, cells := 0, slots := 0, locals := 0 } G cI cZ cE [.int p0] [] [] (some (.int R)) := by
  refine kM_of cX11_factorial 3 (some .int) RX11 (by decide) rfl rfl (Nat.le_of_ble_eq_true rfl) ?_
  intro p e s m below meth c A ls X hA hP hD hS hl
  have hx := X.1.1
  have hb := X.1.2.1
  have hts := X.1.2.2.2.2
  have hown := X.1.2.2.2.1
  have hK := X.2.2.2.1
  have hl : lv_has ls 3 [(0, .int p0)] := hl
  rw [mX11_factorial] at hm
  refine lv_iconst (v := 1) hx hb dX11_factorial_0 (by decide) ?_
  refine lv_istore_n (lv' := [(1, .int 1), (0, .int p0)]) hx hb dX11_factorial_1 rfl hl (by decide) rfl (fun ls hl => ?_)
  refine lv_iconst (v := 2) hx hb dX11_factorial_2 (by decide) ?_
  refine lv_istore_n (lv' := [(2, .int 2), (1, .int 1), (0, .int p0)]) hx hb dX11_factorial_3 rfl hl (by decide) rfl (fun ls hl => ?_)
  have h4 : ∀ (n4 : Nat), ∀ (v4_1 : Int32) (v4_2 : Int32) (H : Heap) (locs : List Loc) (ls : Array Slot), va_P G vwCl [] H → va_D A [] → va_S A s.heap H locs → lv_has ls 3 [(0, .int p0), (1, .int v4_1), (2, .int v4_2)] → mX11_factorial_L4 p0 n4 v4_1 v4_2 = some R → W p l e { frames := 0, cells := 0, slots := 0, locals := 0 } s m ([.int p0] : List Value).toArray below meth c H locs 0 0 (kQ below G [] (some (.int R)) A ([.int p0] : List Value).toArray s) (F0 m 4 ls []) := by
    intro n4
    induction n4 with
    | zero => intro v4_1 v4_2 H locs ls hP hD hS hl hm; rw [mX11_factorial_L4] at hm; cases hm
    | succ n4 ih4 =>
      intro v4_1 v4_2 H locs ls hP hD hS hl hm
      rw [mX11_factorial_L4] at hm
      refine lv_iload_n hx hb dX11_factorial_4 rfl (lv_at hl 2 rfl) ?_
      refine lv_iload_n hx hb dX11_factorial_5 rfl (lv_at hl 0 rfl) ?_
      refine lv_icmp_gt (tgt := 19) hx hb dX11_factorial_6 (by decide) (fun c6 => ?_) (fun c6 => ?_)
      · rw [if_pos c6] at hm
        refine lv_iload_n hx hb dX11_factorial_19 rfl (lv_at hl 1 rfl) ?_
        have hm := Option.some.inj hm
        subst hm
        exact k_iret (v := v4_1) X rfl dX11_factorial_20 hP hD hS
      · rw [if_neg c6] at hm
        refine lv_iload_n hx hb dX11_factorial_9 rfl (lv_at hl 1 rfl) ?_
        refine lv_iload_n hx hb dX11_factorial_10 rfl (lv_at hl 2 rfl) ?_
        refine lv_imul hx hb dX11_factorial_11 ?_
        refine lv_istore_n (lv' := [(1, .int (v4_1 * v4_2)), (0, .int p0), (2, .int v4_2)]) hx hb dX11_factorial_12 rfl hl (by decide) rfl (fun ls hl => ?_)
        refine lv_iinc (v := v4_2 + 1) (lv' := [(2, .int (v4_2 + 1)), (1, .int (v4_1 * v4_2)), (0, .int p0)]) hx hb dX11_factorial_13 hl (k := 2) rfl rfl (by decide) rfl (fun ls hl => ?_)
        refine lv_goto (tgt := 4) hx hb dX11_factorial_16 (by decide) ?_
        exact ih4 (v4_1 * v4_2) (v4_2 + 1) _ _ _ hP hD hS (lv_sub hl [2, 1, 0] rfl) hm
  exact h4 kFU 1 2 _ _ _ hP hD hS (lv_sub hl [2, 1, 0] rfl) hm
theorem hd_X11_factorial : yX11_factorial.cls ≠ "java/lang/invoke/MethodHandle" ∧ yX11_factorial.cls ≠ "java/lang/invoke/VarHandle" ∧ (parseMethodDescriptor yX11_factorial.desc).map (fun d => d.parameters.length) = some 1 := by decide +kernel
/-! CoverOrderModel common -/
set_option maxRecDepth 100000 in
set_option maxHeartbeats 4000000 in
theorem c_X11_common (l : Launch) (G : va_G) (cI cZ cE : ClassId) (p0 : Int32) (p1 : Int32) (R : Int32) (hm : mX11_common p0 p1 = some R) : kM l yX11_common wsX11_common { frames := 0, cells := 0, slots := 0, locals := 0 } G cI cZ cE [.int p0, .int p1] [] [] (some (.int R)) := by
  refine kM_of cX11_common 5 (some .int) RX11 (by decide) rfl rfl (Nat.le_of_ble_eq_true rfl) ?_
  intro p e s m below meth c A ls X hA hP hD hS hl
  have hx := X.1.1
  have hb := X.1.2.1
  have hts := X.1.2.2.2.2
  have hown := X.1.2.2.2.1
  have hK := X.2.2.2.1
  have hl : lv_has ls 5 [(0, .int p0), (1, .int p1)] := hl
  rw [mX11_common] at hm
  refine lv_iload_n hx hb dX11_common_0 rfl (lv_at hl 0 rfl) ?_
  have h13 : ∀ (n13 : Nat), ∀ (v13_2 : Int32) (v13_3 : Int32) (H : Heap) (locs : List Loc) (ls : Array Slot), va_P G vwCl [] H → va_D A [] → va_S A s.heap H locs → lv_has ls 5 [(2, .int v13_2), (3, .int v13_3)] → mX11_common_L13 n13 v13_2 v13_3 = some R → W p l e { frames := 0, cells := 0, slots := 0, locals := 0 } s m ([.int p0, .int p1] : List Value).toArray below meth c H locs 0 0 (kQ below G [] (some (.int R)) A ([.int p0, .int p1] : List Value).toArray s) (F0 m 13 ls []) := by
    intro n13
    induction n13 with
    | zero => intro v13_2 v13_3 H locs ls hP hD hS hl hm; rw [mX11_common_L13] at hm; cases hm
    | succ n13 ih13 =>
      intro v13_2 v13_3 H locs ls hP hD hS hl hm
      rw [mX11_common_L13] at hm
      refine lv_iload_n hx hb dX11_common_13 rfl (lv_at hl 1 rfl) ?_
      refine lv_if_eq (tgt := 30) hx hb dX11_common_14 (by decide) (fun c14 => ?_) (fun c14 => ?_)
      · rw [if_pos c14] at hm
        refine lv_iload_n hx hb dX11_common_30 rfl (lv_at hl 0 rfl) ?_
        have hm := Option.some.inj hm
        subst hm
        exact k_iret (v := v13_2) X rfl dX11_common_31 hP hD hS
      · rw [if_neg c14] at hm
        refine lv_iload_n hx hb dX11_common_17 rfl (lv_at hl 0 rfl) ?_
        refine lv_iload_n hx hb dX11_common_18 rfl (lv_at hl 1 rfl) ?_
        refine lv_irem hx hb dX11_common_19 c14 ?_
        refine lv_istore (lv' := [(4, .int (v13_2 - v13_2 / v13_3 * v13_3)), (2, .int v13_2), (3, .int v13_3)]) hx hb dX11_common_20 hl (by decide) rfl (fun ls hl => ?_)
        refine lv_iload_n hx hb dX11_common_22 rfl (lv_at hl 2 rfl) ?_
        refine lv_istore_n (lv' := [(2, .int v13_3), (4, .int (v13_2 - v13_2 / v13_3 * v13_3)), (3, .int v13_3)]) hx hb dX11_common_23 rfl hl (by decide) rfl (fun ls hl => ?_)
        refine lv_iload hx hb dX11_common_24 (lv_at hl 1 rfl) ?_
        refine lv_istore_n (lv' := [(3, .int (v13_2 - v13_2 / v13_3 * v13_3)), (2, .int v13_3), (4, .int (v13_2 - v13_2 / v13_3 * v13_3))]) hx hb dX11_common_26 rfl hl (by decide) rfl (fun ls hl => ?_)
        refine lv_goto (tgt := 13) hx hb dX11_common_27 (by decide) ?_
        exact ih13 v13_3 (v13_2 - v13_2 / v13_3 * v13_3) _ _ _ hP hD hS (lv_sub hl [1, 0] rfl) hm
  refine lv_if_ge (tgt := 9) hx hb dX11_common_1 (by decide) (fun c1 => ?_) (fun c1 => ?_)
  · rw [if_pos c1] at hm
    refine lv_iload_n hx hb dX11_common_9 rfl (lv_at hl 0 rfl) ?_
    refine lv_istore_n (lv' := [(2, .int p0), (0, .int p0), (1, .int p1)]) hx hb dX11_common_10 rfl hl (by decide) rfl (fun ls hl => ?_)
    refine lv_iload_n hx hb dX11_common_11 rfl (lv_at hl 2 rfl) ?_
    refine lv_istore_n (lv' := [(3, .int p1), (2, .int p0), (0, .int p0), (1, .int p1)]) hx hb dX11_common_12 rfl hl (by decide) rfl (fun ls hl => ?_)
    exact h13 kFU p0 p1 _ _ _ hP hD hS (lv_sub hl [1, 0] rfl) hm
  · rw [if_neg c1] at hm
    refine lv_iload_n hx hb dX11_common_4 rfl (lv_at hl 0 rfl) ?_
    refine lv_ineg hx hb dX11_common_5 ?_
    refine lv_goto (tgt := 10) hx hb dX11_common_6 (by decide) ?_
    refine lv_istore_n (lv' := [(2, .int (-p0)), (0, .int p0), (1, .int p1)]) hx hb dX11_common_10 rfl hl (by decide) rfl (fun ls hl => ?_)
    refine lv_iload_n hx hb dX11_common_11 rfl (lv_at hl 2 rfl) ?_
    refine lv_istore_n (lv' := [(3, .int p1), (2, .int (-p0)), (0, .int p0), (1, .int p1)]) hx hb dX11_common_12 rfl hl (by decide) rfl (fun ls hl => ?_)
    exact h13 kFU (-p0) p1 _ _ _ hP hD hS (lv_sub hl [1, 0] rfl) hm
theorem hd_X11_common : yX11_common.cls ≠ "java/lang/invoke/MethodHandle" ∧ yX11_common.cls ≠ "java/lang/invoke/VarHandle" ∧ (parseMethodDescriptor yX11_common.desc).map (fun d => d.parameters.length) = some 2 := by decide +kernel
/-! CoverOrderModel share -/
set_option maxRecDepth 100000 in
set_option maxHeartbeats 4000000 in
theorem c_X11_share (l : Launch) (G : va_G) (cI cZ cE : ClassId) (a_t a_t_now a_t_text a_t_covers a_t_order a_t_way a_t_tried a_t_row a_t_lids a_t_shown a_t_seenKnot a_t_seenLid a_t_seenHad a_t_isKept a_t_kept : Nat) (k_t_knots : Int32) (k_t_readKnots : Int32) (k_t_length : Int32) (k_t_reached : Int32) (k_t_acts : Int32) (k_t_next : Int32) (k_t_seen : Int32) (k_t_seed : Int64) (f_t_now : Nat → Int32) (p1 : Int32) (p2 : Int32) (p3 : Bool) (R : Int32) (hm : mX11_share k_t_knots f_t_now p1 p2 p3 = some R) : kM l yX11_share wsX11_share { frames := 2, cells := 0, slots := 0, locals := 53 } G cI cZ cE [.ref a_t, .int p1, .int p2, .int (bI p3)] [(a_t, .inr (8, [.int k_t_knots, .ref a_t_now, .int k_t_readKnots, .ref a_t_text, .int k_t_length, .ref a_t_covers, .int k_t_reached, .ref a_t_order, .ref a_t_way, .ref a_t_tried, .int k_t_acts, .int k_t_next, .ref a_t_row, .ref a_t_lids, .ref a_t_shown, .int k_t_seen, .ref a_t_seenKnot, .ref a_t_seenLid, .ref a_t_seenHad, .long k_t_seed, .ref a_t_isKept, .ref a_t_kept])), (a_t_now, .inl (cI, 100, .inl f_t_now))] [(a_t, .inr (8, [.int k_t_knots, .ref a_t_now, .int k_t_readKnots, .ref a_t_text, .int k_t_length, .ref a_t_covers, .int k_t_reached, .ref a_t_order, .ref a_t_way, .ref a_t_tried, .int k_t_acts, .int k_t_next, .ref a_t_row, .ref a_t_lids, .ref a_t_shown, .int k_t_seen, .ref a_t_seenKnot, .ref a_t_seenLid, .ref a_t_seenHad, .long k_t_seed, .ref a_t_isKept, .ref a_t_kept])), (a_t_now, .inl (cI, 100, .inl f_t_now))] (some (.int R)) := by
  refine kM_of cX11_share 10 (some .int) RX11 (by decide) rfl rfl (Nat.le_of_ble_eq_true rfl) ?_
  intro p e s m below meth c A ls X hA hP hD hS hl
  have hx := X.1.1
  have hb := X.1.2.1
  have hts := X.1.2.2.2.2
  have hown := X.1.2.2.2.1
  have hK := X.2.2.2.1
  have hl : lv_has ls 10 [(0, .ref a_t), (1, .int p1), (2, .int p2), (3, .int (bI p3))] := hl
  rw [mX11_share] at hm
  refine lv_aload_n hx hb dX11_share_0 rfl (lv_at hl 0 rfl) ?_
  refine lv_iload_n hx hb dX11_share_1 rfl (lv_at hl 1 rfl) ?_
  refine kcV0 (st1 := [.int (bI (mX11_isKnot k_t_knots p1))]) X hA (c_X11_isKnot l G cI cZ cE a_t a_t_now a_t_text a_t_covers a_t_order a_t_way a_t_tried a_t_row a_t_lids a_t_shown a_t_seenKnot a_t_seenLid a_t_seenHad a_t_isKept a_t_kept k_t_knots k_t_readKnots k_t_length k_t_reached k_t_acts k_t_next k_t_seen k_t_seed p1 _ rfl) (cwV 1 hts gX11_share_X11_isKnot rfl rfl rfl hd_X11_isKnot ⟨Nat.le_of_ble_eq_true rfl, Nat.le_of_ble_eq_true rfl⟩) 0 8 rfl rfl hl.1 dX11_share_2 hP hD hS [0] rfl rfl rfl [] rfl (Nat.le_of_ble_eq_true rfl) rfl ⟨Nat.zero_le _, Nat.zero_le _⟩ (fun H locs hP hD hS => ?_)
  refine lv_if_eq (tgt := 16) hx hb dX11_share_5 (by decide) (fun c5 => ?_) (fun c5 => ?_)
  · have c5 := kb0 c5
    rw [if_neg c5] at hm
    refine lv_iconst (v := (-1)) hx hb dX11_share_16 (by decide) ?_
    have hm := Option.some.inj hm
    subst hm
    exact k_iret (v := (-1)) X rfl dX11_share_17 hP hD hS
  · have c5 := kb1 c5
    rw [if_pos c5] at hm
    refine lv_aload_n hx hb dX11_share_8 rfl (lv_at hl 0 rfl) ?_
    refine lv_iload_n hx hb dX11_share_9 rfl (lv_at hl 2 rfl) ?_
    refine kcV0 (st1 := [.int (bI (mX11_isKnot k_t_knots p2))]) X hA (c_X11_isKnot l G cI cZ cE a_t a_t_now a_t_text a_t_covers a_t_order a_t_way a_t_tried a_t_row a_t_lids a_t_shown a_t_seenKnot a_t_seenLid a_t_seenHad a_t_isKept a_t_kept k_t_knots k_t_readKnots k_t_length k_t_reached k_t_acts k_t_next k_t_seen k_t_seed p2 _ rfl) (cwV 1 hts gX11_share_X11_isKnot rfl rfl rfl hd_X11_isKnot ⟨Nat.le_of_ble_eq_true rfl, Nat.le_of_ble_eq_true rfl⟩) 0 8 rfl rfl hl.1 dX11_share_10 hP hD hS [0] rfl rfl rfl [] rfl (Nat.le_of_ble_eq_true rfl) rfl ⟨Nat.zero_le _, Nat.zero_le _⟩ (fun H locs hP hD hS => ?_)
    refine lv_if_ne (tgt := 18) hx hb dX11_share_13 (by decide) (fun c13 => ?_) (fun c13 => ?_)
    · have c13 := kb1 c13
      rw [if_pos c13] at hm
      refine lv_aload_n hx hb dX11_share_18 rfl (lv_at hl 0 rfl) ?_
      refine lv_iconst (v := 0) hx hb dX11_share_19 (by decide) ?_
      refine lv_iload_n hx hb dX11_share_20 rfl (lv_at hl 1 rfl) ?_
      refine lv_iload_n hx hb dX11_share_21 rfl (lv_at hl 2 rfl) ?_
      obtain ⟨r22, hc22, hm⟩ := kbind hm
      refine kcV0 (st1 := [.int r22]) X hA (c_X11_find l G cI cZ cE a_t a_t_now a_t_text a_t_covers a_t_order a_t_way a_t_tried a_t_row a_t_lids a_t_shown a_t_seenKnot a_t_seenLid a_t_seenHad a_t_isKept a_t_kept k_t_knots k_t_readKnots k_t_length k_t_reached k_t_acts k_t_next k_t_seen k_t_seed f_t_now 0 p1 p2 r22 hc22) (cwV 3 hts gX11_share_X11_find rfl rfl rfl hd_X11_find ⟨Nat.le_of_ble_eq_true rfl, Nat.le_of_ble_eq_true rfl⟩) 0 8 rfl rfl hl.1 dX11_share_22 hP hD hS [0, 1] rfl rfl rfl [] rfl (Nat.le_of_ble_eq_true rfl) rfl ⟨Nat.zero_le _, Nat.zero_le _⟩ (fun H locs hP hD hS => ?_)
      refine lv_istore (lv' := [(4, .int r22), (0, .ref a_t), (1, .int p1), (2, .int p2), (3, .int (bI p3))]) hx hb dX11_share_25 hl (by decide) rfl (fun ls hl => ?_)
      refine lv_iload hx hb dX11_share_27 (lv_at hl 0 rfl) ?_
      refine lv_bipush (v := (-9)) hx hb dX11_share_29 (by decide) ?_
      refine lv_icmp_ne (tgt := 37) hx hb dX11_share_31 (by decide) (fun c31 => ?_) (fun c31 => ?_)
      · rw [if_neg c31] at hm
        refine lv_iconst (v := 0) hx hb dX11_share_37 (by decide) ?_
        refine lv_istore (lv' := [(5, .int 0), (4, .int r22), (0, .ref a_t), (1, .int p1), (2, .int p2), (3, .int (bI p3))]) hx hb dX11_share_38 hl (by decide) rfl (fun ls hl => ?_)
        refine lv_iconst (v := 0) hx hb dX11_share_40 (by decide) ?_
        refine lv_istore (lv' := [(6, .int 0), (5, .int 0), (4, .int r22), (0, .ref a_t), (1, .int p1), (2, .int p2), (3, .int (bI p3))]) hx hb dX11_share_41 hl (by decide) rfl (fun ls hl => ?_)
        have h43 : ∀ (n43 : Nat), ∀ (v43_5 : Int32) (v43_6 : Int32) (H : Heap) (locs : List Loc) (ls : Array Slot), va_P G vwCl [(a_t, .inr (8, [.int k_t_knots, .ref a_t_now, .int k_t_readKnots, .ref a_t_text, .int k_t_length, .ref a_t_covers, .int k_t_reached, .ref a_t_order, .ref a_t_way, .ref a_t_tried, .int k_t_acts, .int k_t_next, .ref a_t_row, .ref a_t_lids, .ref a_t_shown, .int k_t_seen, .ref a_t_seenKnot, .ref a_t_seenLid, .ref a_t_seenHad, .long k_t_seed, .ref a_t_isKept, .ref a_t_kept])), (a_t_now, .inl (cI, 100, .inl f_t_now))] H → va_D A [(a_t, .inr (8, [.int k_t_knots, .ref a_t_now, .int k_t_readKnots, .ref a_t_text, .int k_t_length, .ref a_t_covers, .int k_t_reached, .ref a_t_order, .ref a_t_way, .ref a_t_tried, .int k_t_acts, .int k_t_next, .ref a_t_row, .ref a_t_lids, .ref a_t_shown, .int k_t_seen, .ref a_t_seenKnot, .ref a_t_seenLid, .ref a_t_seenHad, .long k_t_seed, .ref a_t_isKept, .ref a_t_kept])), (a_t_now, .inl (cI, 100, .inl f_t_now))] → va_S A s.heap H locs → lv_has ls 10 [(0, .ref a_t), (1, .int p1), (3, .int (bI p3)), (4, .int r22), (5, .int v43_5), (6, .int v43_6)] → mX11_share_L43 f_t_now p1 p3 r22 n43 v43_5 v43_6 = some R → W p l e { frames := 2, cells := 0, slots := 0, locals := 53 } s m ([.ref a_t, .int p1, .int p2, .int (bI p3)] : List Value).toArray below meth c H locs 0 0 (kQ below G [(a_t, .inr (8, [.int k_t_knots, .ref a_t_now, .int k_t_readKnots, .ref a_t_text, .int k_t_length, .ref a_t_covers, .int k_t_reached, .ref a_t_order, .ref a_t_way, .ref a_t_tried, .int k_t_acts, .int k_t_next, .ref a_t_row, .ref a_t_lids, .ref a_t_shown, .int k_t_seen, .ref a_t_seenKnot, .ref a_t_seenLid, .ref a_t_seenHad, .long k_t_seed, .ref a_t_isKept, .ref a_t_kept])), (a_t_now, .inl (cI, 100, .inl f_t_now))] (some (.int R)) A ([.ref a_t, .int p1, .int p2, .int (bI p3)] : List Value).toArray s) (F0 m 43 ls []) := by
          intro n43
          induction n43 with
          | zero => intro v43_5 v43_6 H locs ls hP hD hS hl hm; rw [mX11_share_L43] at hm; cases hm
          | succ n43 ih43 =>
            intro v43_5 v43_6 H locs ls hP hD hS hl hm
            rw [mX11_share_L43] at hm
            refine lv_iload hx hb dX11_share_43 (lv_at hl 5 rfl) ?_
            refine lv_iload hx hb dX11_share_45 (lv_at hl 3 rfl) ?_
            have h77 : ∀ (H : Heap) (locs : List Loc) (ls : Array Slot), va_P G vwCl [(a_t, .inr (8, [.int k_t_knots, .ref a_t_now, .int k_t_readKnots, .ref a_t_text, .int k_t_length, .ref a_t_covers, .int k_t_reached, .ref a_t_order, .ref a_t_way, .ref a_t_tried, .int k_t_acts, .int k_t_next, .ref a_t_row, .ref a_t_lids, .ref a_t_shown, .int k_t_seen, .ref a_t_seenKnot, .ref a_t_seenLid, .ref a_t_seenHad, .long k_t_seed, .ref a_t_isKept, .ref a_t_kept])), (a_t_now, .inl (cI, 100, .inl f_t_now))] H → va_D A [(a_t, .inr (8, [.int k_t_knots, .ref a_t_now, .int k_t_readKnots, .ref a_t_text, .int k_t_length, .ref a_t_covers, .int k_t_reached, .ref a_t_order, .ref a_t_way, .ref a_t_tried, .int k_t_acts, .int k_t_next, .ref a_t_row, .ref a_t_lids, .ref a_t_shown, .int k_t_seen, .ref a_t_seenKnot, .ref a_t_seenLid, .ref a_t_seenHad, .long k_t_seed, .ref a_t_isKept, .ref a_t_kept])), (a_t_now, .inl (cI, 100, .inl f_t_now))] → va_S A s.heap H locs → lv_has ls 10 [(0, .ref a_t), (1, .int p1), (3, .int (bI p3)), (5, .int v43_5)] → mX11_share_J77 f_t_now p1 p3 v43_5 = some R → W p l e { frames := 2, cells := 0, slots := 0, locals := 53 } s m ([.ref a_t, .int p1, .int p2, .int (bI p3)] : List Value).toArray below meth c H locs 0 0 (kQ below G [(a_t, .inr (8, [.int k_t_knots, .ref a_t_now, .int k_t_readKnots, .ref a_t_text, .int k_t_length, .ref a_t_covers, .int k_t_reached, .ref a_t_order, .ref a_t_way, .ref a_t_tried, .int k_t_acts, .int k_t_next, .ref a_t_row, .ref a_t_lids, .ref a_t_shown, .int k_t_seen, .ref a_t_seenKnot, .ref a_t_seenLid, .ref a_t_seenHad, .long k_t_seed, .ref a_t_isKept, .ref a_t_kept])), (a_t_now, .inl (cI, 100, .inl f_t_now))] (some (.int R)) A ([.ref a_t, .int p1, .int p2, .int (bI p3)] : List Value).toArray s) (F0 m 77 ls []) := by
              intro H locs ls hP hD hS hl hm
              rw [mX11_share_J77] at hm
              refine lv_aload_n hx hb dX11_share_77 rfl (lv_at hl 0 rfl) ?_
              refine lv_iconst (v := 0) hx hb dX11_share_78 (by decide) ?_
              refine lv_iload_n hx hb dX11_share_79 rfl (lv_at hl 1 rfl) ?_
              obtain ⟨r80, hc80, hm⟩ := kbind hm
              refine kcV0 (st1 := [.int r80]) X hA (c_X11_outOf l G cI cZ cE a_t a_t_now a_t_text a_t_covers a_t_order a_t_way a_t_tried a_t_row a_t_lids a_t_shown a_t_seenKnot a_t_seenLid a_t_seenHad a_t_isKept a_t_kept k_t_knots k_t_readKnots k_t_length k_t_reached k_t_acts k_t_next k_t_seen k_t_seed f_t_now 0 p1 r80 hc80) (cwV 2 hts gX11_share_X11_outOf rfl rfl rfl hd_X11_outOf ⟨Nat.le_of_ble_eq_true rfl, Nat.le_of_ble_eq_true rfl⟩) 0 8 rfl rfl hl.1 dX11_share_80 hP hD hS [0, 1] rfl rfl rfl [] rfl (Nat.le_of_ble_eq_true rfl) rfl ⟨Nat.zero_le _, Nat.zero_le _⟩ (fun H locs hP hD hS => ?_)
              refine lv_istore (lv' := [(6, .int r80), (0, .ref a_t), (1, .int p1), (3, .int (bI p3)), (5, .int v43_5)]) hx hb dX11_share_83 hl (by decide) rfl (fun ls hl => ?_)
              refine lv_iconst (v := 0) hx hb dX11_share_85 (by decide) ?_
              refine lv_istore (lv' := [(7, .int 0), (6, .int r80), (0, .ref a_t), (1, .int p1), (3, .int (bI p3)), (5, .int v43_5)]) hx hb dX11_share_86 hl (by decide) rfl (fun ls hl => ?_)
              refine lv_iconst (v := 0) hx hb dX11_share_88 (by decide) ?_
              refine lv_istore (lv' := [(8, .int 0), (7, .int 0), (6, .int r80), (0, .ref a_t), (1, .int p1), (3, .int (bI p3)), (5, .int v43_5)]) hx hb dX11_share_89 hl (by decide) rfl (fun ls hl => ?_)
              have h91 : ∀ (n91 : Nat), ∀ (v91_7 : Int32) (v91_8 : Int32) (H : Heap) (locs : List Loc) (ls : Array Slot), va_P G vwCl [(a_t, .inr (8, [.int k_t_knots, .ref a_t_now, .int k_t_readKnots, .ref a_t_text, .int k_t_length, .ref a_t_covers, .int k_t_reached, .ref a_t_order, .ref a_t_way, .ref a_t_tried, .int k_t_acts, .int k_t_next, .ref a_t_row, .ref a_t_lids, .ref a_t_shown, .int k_t_seen, .ref a_t_seenKnot, .ref a_t_seenLid, .ref a_t_seenHad, .long k_t_seed, .ref a_t_isKept, .ref a_t_kept])), (a_t_now, .inl (cI, 100, .inl f_t_now))] H → va_D A [(a_t, .inr (8, [.int k_t_knots, .ref a_t_now, .int k_t_readKnots, .ref a_t_text, .int k_t_length, .ref a_t_covers, .int k_t_reached, .ref a_t_order, .ref a_t_way, .ref a_t_tried, .int k_t_acts, .int k_t_next, .ref a_t_row, .ref a_t_lids, .ref a_t_shown, .int k_t_seen, .ref a_t_seenKnot, .ref a_t_seenLid, .ref a_t_seenHad, .long k_t_seed, .ref a_t_isKept, .ref a_t_kept])), (a_t_now, .inl (cI, 100, .inl f_t_now))] → va_S A s.heap H locs → lv_has ls 10 [(0, .ref a_t), (1, .int p1), (3, .int (bI p3)), (5, .int v43_5), (6, .int r80), (7, .int v91_7), (8, .int v91_8)] → mX11_share_L91 f_t_now p1 p3 v43_5 r80 n91 v91_7 v91_8 = some R → W p l e { frames := 2, cells := 0, slots := 0, locals := 53 } s m ([.ref a_t, .int p1, .int p2, .int (bI p3)] : List Value).toArray below meth c H locs 0 0 (kQ below G [(a_t, .inr (8, [.int k_t_knots, .ref a_t_now, .int k_t_readKnots, .ref a_t_text, .int k_t_length, .ref a_t_covers, .int k_t_reached, .ref a_t_order, .ref a_t_way, .ref a_t_tried, .int k_t_acts, .int k_t_next, .ref a_t_row, .ref a_t_lids, .ref a_t_shown, .int k_t_seen, .ref a_t_seenKnot, .ref a_t_seenLid, .ref a_t_seenHad, .long k_t_seed, .ref a_t_isKept, .ref a_t_kept])), (a_t_now, .inl (cI, 100, .inl f_t_now))] (some (.int R)) A ([.ref a_t, .int p1, .int p2, .int (bI p3)] : List Value).toArray s) (F0 m 91 ls []) := by
                intro n91
                induction n91 with
                | zero => intro v91_7 v91_8 H locs ls hP hD hS hl hm; rw [mX11_share_L91] at hm; cases hm
                | succ n91 ih91 =>
                  intro v91_7 v91_8 H locs ls hP hD hS hl hm
                  rw [mX11_share_L91] at hm
                  refine lv_iload hx hb dX11_share_91 (lv_at hl 6 rfl) ?_
                  refine lv_iconst (v := 1) hx hb dX11_share_93 (by decide) ?_
                  refine lv_iload hx hb dX11_share_94 (lv_at hl 4 rfl) ?_
                  refine lv_ishl hx hb dX11_share_96 ?_
                  have h180 : ∀ (H : Heap) (locs : List Loc) (ls : Array Slot), va_P G vwCl [(a_t, .inr (8, [.int k_t_knots, .ref a_t_now, .int k_t_readKnots, .ref a_t_text, .int k_t_length, .ref a_t_covers, .int k_t_reached, .ref a_t_order, .ref a_t_way, .ref a_t_tried, .int k_t_acts, .int k_t_next, .ref a_t_row, .ref a_t_lids, .ref a_t_shown, .int k_t_seen, .ref a_t_seenKnot, .ref a_t_seenLid, .ref a_t_seenHad, .long k_t_seed, .ref a_t_isKept, .ref a_t_kept])), (a_t_now, .inl (cI, 100, .inl f_t_now))] H → va_D A [(a_t, .inr (8, [.int k_t_knots, .ref a_t_now, .int k_t_readKnots, .ref a_t_text, .int k_t_length, .ref a_t_covers, .int k_t_reached, .ref a_t_order, .ref a_t_way, .ref a_t_tried, .int k_t_acts, .int k_t_next, .ref a_t_row, .ref a_t_lids, .ref a_t_shown, .int k_t_seen, .ref a_t_seenKnot, .ref a_t_seenLid, .ref a_t_seenHad, .long k_t_seed, .ref a_t_isKept, .ref a_t_kept])), (a_t_now, .inl (cI, 100, .inl f_t_now))] → va_S A s.heap H locs → lv_has ls 10 [(3, .int (bI p3)), (6, .int r80), (7, .int v91_7)] → mX11_share_J180 p3 r80 v91_7 = some R → W p l e { frames := 2, cells := 0, slots := 0, locals := 53 } s m ([.ref a_t, .int p1, .int p2, .int (bI p3)] : List Value).toArray below meth c H locs 0 0 (kQ below G [(a_t, .inr (8, [.int k_t_knots, .ref a_t_now, .int k_t_readKnots, .ref a_t_text, .int k_t_length, .ref a_t_covers, .int k_t_reached, .ref a_t_order, .ref a_t_way, .ref a_t_tried, .int k_t_acts, .int k_t_next, .ref a_t_row, .ref a_t_lids, .ref a_t_shown, .int k_t_seen, .ref a_t_seenKnot, .ref a_t_seenLid, .ref a_t_seenHad, .long k_t_seed, .ref a_t_isKept, .ref a_t_kept])), (a_t_now, .inl (cI, 100, .inl f_t_now))] (some (.int R)) A ([.ref a_t, .int p1, .int p2, .int (bI p3)] : List Value).toArray s) (F0 m 180 ls []) := by
                    intro H locs ls hP hD hS hl hm
                    rw [mX11_share_J180] at hm
                    refine lv_iload hx hb dX11_share_180 (lv_at hl 2 rfl) ?_
                    refine lv_iload hx hb dX11_share_182 (lv_at hl 1 rfl) ?_
                    obtain ⟨r184, hc184, hm⟩ := kbind hm
                    refine kcS0 (st1 := [.int r184, .int v91_7]) X hA (c_X11_factorial l G cI cZ cE r80 r184 hc184) (va_cwS 1 hts gX11_share_X11_factorial rfl rfl rfl hd_X11_factorial ⟨Nat.le_of_ble_eq_true rfl, Nat.le_of_ble_eq_true rfl⟩) hl.1 dX11_share_184 hP hD hS [] rfl rfl rfl [.int v91_7] rfl (Nat.le_of_ble_eq_true rfl) rfl ⟨Nat.zero_le _, Nat.zero_le _⟩ (fun H locs hP hD hS => ?_)
                    obtain ⟨r187, hc187, hm⟩ := kbind hm
                    refine kcS0 (st1 := [.int r187]) X hA (c_X11_common l G cI cZ cE v91_7 r184 r187 hc187) (va_cwS 2 hts gX11_share_X11_common rfl rfl rfl hd_X11_common ⟨Nat.le_of_ble_eq_true rfl, Nat.le_of_ble_eq_true rfl⟩) hl.1 dX11_share_187 hP hD hS [] rfl rfl rfl [] rfl (Nat.le_of_ble_eq_true rfl) rfl ⟨Nat.zero_le _, Nat.zero_le _⟩ (fun H locs hP hD hS => ?_)
                    refine lv_istore (lv' := [(8, .int r187), (3, .int (bI p3)), (6, .int r80), (7, .int v91_7)]) hx hb dX11_share_190 hl (by decide) rfl (fun ls hl => ?_)
                    refine lv_iload_n hx hb dX11_share_192 rfl (lv_at hl 1 rfl) ?_
                    refine lv_if_eq (tgt := 204) hx hb dX11_share_193 (by decide) (fun c193 => ?_) (fun c193 => ?_)
                    · have c193 := kb0 c193
                      rw [if_neg c193] at hm
                      refine lv_iload hx hb dX11_share_204 (lv_at hl 2 rfl) ?_
                      obtain ⟨r206, hc206, hm⟩ := kbind hm
                      refine kcS0 (st1 := [.int r206]) X hA (c_X11_factorial l G cI cZ cE r80 r206 hc206) (va_cwS 1 hts gX11_share_X11_factorial rfl rfl rfl hd_X11_factorial ⟨Nat.le_of_ble_eq_true rfl, Nat.le_of_ble_eq_true rfl⟩) hl.1 dX11_share_206 hP hD hS [] rfl rfl rfl [] rfl (Nat.le_of_ble_eq_true rfl) rfl ⟨Nat.zero_le _, Nat.zero_le _⟩ (fun H locs hP hD hS => ?_)
                      refine lv_iload hx hb dX11_share_209 (lv_at hl 0 rfl) ?_
                      obtain ⟨g211, hm⟩ := gd_some hm
                      refine lv_idiv hx hb dX11_share_211 (kne_ok g211) ?_
                      have hm := Option.some.inj hm
                      subst hm
                      exact k_iret (v := r206 / r187) X rfl dX11_share_212 hP hD hS
                    · have c193 := kb1 c193
                      rw [if_pos c193] at hm
                      refine lv_iload hx hb dX11_share_196 (lv_at hl 3 rfl) ?_
                      refine lv_iload hx hb dX11_share_198 (lv_at hl 0 rfl) ?_
                      obtain ⟨g200, hm⟩ := gd_some hm
                      refine lv_idiv hx hb dX11_share_200 (kne_ok g200) ?_
                      refine lv_goto (tgt := 212) hx hb dX11_share_201 (by decide) ?_
                      have hm := Option.some.inj hm
                      subst hm
                      exact k_iret (v := v91_7 / r187) X rfl dX11_share_212 hP hD hS
                  refine lv_icmp_ge (tgt := 180) hx hb dX11_share_97 (by decide) (fun c97 => ?_) (fun c97 => ?_)
                  · rw [if_pos c97] at hm
                    exact h180 _ _ _ hP hD hS (lv_sub hl [2, 4, 5] rfl) hm
                  · rw [if_neg c97] at hm
                    refine lv_iload hx hb dX11_share_100 (lv_at hl 6 rfl) ?_
                    refine lv_iload hx hb dX11_share_102 (lv_at hl 3 rfl) ?_
                    refine kcS0 (st1 := [.int (bI (mX11_has v91_8 v43_5))]) X hA (c_X11_has l G cI cZ cE v91_8 v43_5 _ rfl) (va_cwS 2 hts gX11_share_X11_has rfl rfl rfl hd_X11_has ⟨Nat.le_of_ble_eq_true rfl, Nat.le_of_ble_eq_true rfl⟩) hl.1 dX11_share_104 hP hD hS [] rfl rfl rfl [] rfl (Nat.le_of_ble_eq_true rfl) rfl ⟨Nat.zero_le _, Nat.zero_le _⟩ (fun H locs hP hD hS => ?_)
                    refine lv_if_ne (tgt := 174) hx hb dX11_share_107 (by decide) (fun c107 => ?_) (fun c107 => ?_)
                    · have c107 := kb1 c107
                      rw [if_pos c107] at hm
                      refine lv_iinc (v := v91_8 + 1) (lv' := [(8, .int (v91_8 + 1)), (0, .ref a_t), (1, .int p1), (3, .int (bI p3)), (5, .int v43_5), (6, .int r80), (7, .int v91_7)]) hx hb dX11_share_174 hl (k := 6) rfl rfl (by decide) rfl (fun ls hl => ?_)
                      refine lv_goto (tgt := 91) hx hb dX11_share_177 (by decide) ?_
                      exact ih91 v91_7 (v91_8 + 1) _ _ _ hP hD hS (lv_sub hl [1, 2, 3, 4, 5, 6, 0] rfl) hm
                    · have c107 := kb0 c107
                      rw [if_neg c107] at hm
                      refine lv_iload hx hb dX11_share_110 (lv_at hl 6 rfl) ?_
                      obtain ⟨r112, hc112, hm⟩ := kbind hm
                      refine kcS0 (st1 := [.int r112]) X hA (c_X11_ones l G cI cZ cE v91_8 r112 hc112) (va_cwS 1 hts gX11_share_X11_ones rfl rfl rfl hd_X11_ones ⟨Nat.le_of_ble_eq_true rfl, Nat.le_of_ble_eq_true rfl⟩) hl.1 dX11_share_112 hP hD hS [] rfl rfl rfl [] rfl (Nat.le_of_ble_eq_true rfl) rfl ⟨Nat.zero_le _, Nat.zero_le _⟩ (fun H locs hP hD hS => ?_)
                      obtain ⟨r115, hc115, hm⟩ := kbind hm
                      refine kcS0 (st1 := [.int r115]) X hA (c_X11_factorial l G cI cZ cE r112 r115 hc115) (va_cwS 1 hts gX11_share_X11_factorial rfl rfl rfl hd_X11_factorial ⟨Nat.le_of_ble_eq_true rfl, Nat.le_of_ble_eq_true rfl⟩) hl.1 dX11_share_115 hP hD hS [] rfl rfl rfl [] rfl (Nat.le_of_ble_eq_true rfl) rfl ⟨Nat.zero_le _, Nat.zero_le _⟩ (fun H locs hP hD hS => ?_)
                      refine lv_iload hx hb dX11_share_118 (lv_at hl 4 rfl) ?_
                      refine lv_iconst (v := 1) hx hb dX11_share_120 (by decide) ?_
                      refine lv_isub hx hb dX11_share_121 ?_
                      refine lv_iload hx hb dX11_share_122 (lv_at hl 6 rfl) ?_
                      obtain ⟨r124, hc124, hm⟩ := kbind hm
                      refine kcS0 (st1 := [.int r124, .int (r80 - 1), .int r115]) X hA (c_X11_ones l G cI cZ cE v91_8 r124 hc124) (va_cwS 1 hts gX11_share_X11_ones rfl rfl rfl hd_X11_ones ⟨Nat.le_of_ble_eq_true rfl, Nat.le_of_ble_eq_true rfl⟩) hl.1 dX11_share_124 hP hD hS [] rfl rfl rfl [.int (r80 - 1), .int r115] rfl (Nat.le_of_ble_eq_true rfl) rfl ⟨Nat.zero_le _, Nat.zero_le _⟩ (fun H locs hP hD hS => ?_)
                      refine lv_isub hx hb dX11_share_127 ?_
                      obtain ⟨r128, hc128, hm⟩ := kbind hm
                      refine kcS0 (st1 := [.int r128, .int r115]) X hA (c_X11_factorial l G cI cZ cE ((r80 - 1) - r124) r128 hc128) (va_cwS 1 hts gX11_share_X11_factorial rfl rfl rfl hd_X11_factorial ⟨Nat.le_of_ble_eq_true rfl, Nat.le_of_ble_eq_true rfl⟩) hl.1 dX11_share_128 hP hD hS [] rfl rfl rfl [.int r115] rfl (Nat.le_of_ble_eq_true rfl) rfl ⟨Nat.zero_le _, Nat.zero_le _⟩ (fun H locs hP hD hS => ?_)
                      refine lv_imul hx hb dX11_share_131 ?_
                      refine lv_istore (lv' := [(9, .int (r115 * r128)), (0, .ref a_t), (1, .int p1), (3, .int (bI p3)), (5, .int v43_5), (6, .int r80), (7, .int v91_7), (8, .int v91_8)]) hx hb dX11_share_132 hl (by decide) rfl (fun ls hl => ?_)
                      refine lv_iload hx hb dX11_share_134 (lv_at hl 6 rfl) ?_
                      refine lv_iload hx hb dX11_share_136 (lv_at hl 0 rfl) ?_
                      refine lv_aload_n hx hb dX11_share_138 rfl (lv_at hl 1 rfl) ?_
                      refine lv_iconst (v := 0) hx hb dX11_share_139 (by decide) ?_
                      refine lv_bipush (v := (-9)) hx hb dX11_share_140 (by decide) ?_
                      refine lv_iload_n hx hb dX11_share_142 rfl (lv_at hl 2 rfl) ?_
                      refine lv_iload hx hb dX11_share_143 (lv_at hl 7 rfl) ?_
                      refine lv_iconst (v := 1) hx hb dX11_share_145 (by decide) ?_
                      refine lv_iload hx hb dX11_share_146 (lv_at hl 4 rfl) ?_
                      refine lv_ishl hx hb dX11_share_148 ?_
                      refine lv_ior hx hb dX11_share_149 ?_
                      obtain ⟨r150, hc150, hm⟩ := kbind hm
                      refine kcV0 (st1 := [.int r150, .int (r115 * r128), .int v91_7]) X hA (c_X11_reachedBy l G cI cZ cE a_t a_t_now a_t_text a_t_covers a_t_order a_t_way a_t_tried a_t_row a_t_lids a_t_shown a_t_seenKnot a_t_seenLid a_t_seenHad a_t_isKept a_t_kept k_t_knots k_t_readKnots k_t_length k_t_reached k_t_acts k_t_next k_t_seen k_t_seed f_t_now 0 (-9) p1 (v91_8 ||| (1 <<< (v43_5 &&& 31))) r150 hc150) (cwV 4 hts gX11_share_X11_reachedBy rfl rfl rfl hd_X11_reachedBy ⟨Nat.le_of_ble_eq_true rfl, Nat.le_of_ble_eq_true rfl⟩) 0 8 rfl rfl hl.1 dX11_share_150 hP hD hS [0, 1] rfl rfl rfl [.int (r115 * r128), .int v91_7] rfl (Nat.le_of_ble_eq_true rfl) rfl ⟨Nat.zero_le _, Nat.zero_le _⟩ (fun H locs hP hD hS => ?_)
                      obtain ⟨r153, hc153, hm⟩ := kbind hm
                      refine kcS0 (st1 := [.int r153, .int (r115 * r128), .int v91_7]) X hA (c_X11_ones l G cI cZ cE r150 r153 hc153) (va_cwS 1 hts gX11_share_X11_ones rfl rfl rfl hd_X11_ones ⟨Nat.le_of_ble_eq_true rfl, Nat.le_of_ble_eq_true rfl⟩) hl.1 dX11_share_153 hP hD hS [] rfl rfl rfl [.int (r115 * r128), .int v91_7] rfl (Nat.le_of_ble_eq_true rfl) rfl ⟨Nat.zero_le _, Nat.zero_le _⟩ (fun H locs hP hD hS => ?_)
                      refine lv_aload_n hx hb dX11_share_156 rfl (lv_at hl 1 rfl) ?_
                      refine lv_iconst (v := 0) hx hb dX11_share_157 (by decide) ?_
                      refine lv_bipush (v := (-9)) hx hb dX11_share_158 (by decide) ?_
                      refine lv_iload_n hx hb dX11_share_160 rfl (lv_at hl 2 rfl) ?_
                      refine lv_iload hx hb dX11_share_161 (lv_at hl 7 rfl) ?_
                      obtain ⟨r163, hc163, hm⟩ := kbind hm
                      refine kcV0 (st1 := [.int r163, .int r153, .int (r115 * r128), .int v91_7]) X hA (c_X11_reachedBy l G cI cZ cE a_t a_t_now a_t_text a_t_covers a_t_order a_t_way a_t_tried a_t_row a_t_lids a_t_shown a_t_seenKnot a_t_seenLid a_t_seenHad a_t_isKept a_t_kept k_t_knots k_t_readKnots k_t_length k_t_reached k_t_acts k_t_next k_t_seen k_t_seed f_t_now 0 (-9) p1 v91_8 r163 hc163) (cwV 4 hts gX11_share_X11_reachedBy rfl rfl rfl hd_X11_reachedBy ⟨Nat.le_of_ble_eq_true rfl, Nat.le_of_ble_eq_true rfl⟩) 0 8 rfl rfl hl.1 dX11_share_163 hP hD hS [0, 1] rfl rfl rfl [.int r153, .int (r115 * r128), .int v91_7] rfl (Nat.le_of_ble_eq_true rfl) rfl ⟨Nat.zero_le _, Nat.zero_le _⟩ (fun H locs hP hD hS => ?_)
                      obtain ⟨r166, hc166, hm⟩ := kbind hm
                      refine kcS0 (st1 := [.int r166, .int r153, .int (r115 * r128), .int v91_7]) X hA (c_X11_ones l G cI cZ cE r163 r166 hc166) (va_cwS 1 hts gX11_share_X11_ones rfl rfl rfl hd_X11_ones ⟨Nat.le_of_ble_eq_true rfl, Nat.le_of_ble_eq_true rfl⟩) hl.1 dX11_share_166 hP hD hS [] rfl rfl rfl [.int r153, .int (r115 * r128), .int v91_7] rfl (Nat.le_of_ble_eq_true rfl) rfl ⟨Nat.zero_le _, Nat.zero_le _⟩ (fun H locs hP hD hS => ?_)
                      refine lv_isub hx hb dX11_share_169 ?_
                      refine lv_imul hx hb dX11_share_170 ?_
                      refine lv_iadd hx hb dX11_share_171 ?_
                      refine lv_istore (lv' := [(7, .int (v91_7 + ((r115 * r128) * (r153 - r166)))), (9, .int (r115 * r128)), (0, .ref a_t), (1, .int p1), (3, .int (bI p3)), (5, .int v43_5), (6, .int r80), (8, .int v91_8)]) hx hb dX11_share_172 hl (by decide) rfl (fun ls hl => ?_)
                      refine lv_iinc (v := v91_8 + 1) (lv' := [(8, .int (v91_8 + 1)), (7, .int (v91_7 + ((r115 * r128) * (r153 - r166)))), (9, .int (r115 * r128)), (0, .ref a_t), (1, .int p1), (3, .int (bI p3)), (5, .int v43_5), (6, .int r80)]) hx hb dX11_share_174 hl (k := 7) rfl rfl (by decide) rfl (fun ls hl => ?_)
                      refine lv_goto (tgt := 91) hx hb dX11_share_177 (by decide) ?_
                      exact ih91 (v91_7 + ((r115 * r128) * (r153 - r166))) (v91_8 + 1) _ _ _ hP hD hS (lv_sub hl [3, 4, 5, 6, 7, 1, 0] rfl) hm
              exact h91 kFU 0 0 _ _ _ hP hD hS (lv_sub hl [3, 4, 5, 6, 2, 1, 0] rfl) hm
            refine lv_icmp_ge (tgt := 77) hx hb dX11_share_47 (by decide) (fun c47 => ?_) (fun c47 => ?_)
            · rw [if_pos c47] at hm
              exact h77 _ _ _ hP hD hS (lv_sub hl [0, 1, 2, 4] rfl) hm
            · rw [if_neg c47] at hm
              refine lv_iload hx hb dX11_share_50 (lv_at hl 4 rfl) ?_
              refine lv_aload_n hx hb dX11_share_52 rfl (lv_at hl 0 rfl) ?_
              refine lv_iconst (v := 0) hx hb dX11_share_53 (by decide) ?_
              refine lv_iload hx hb dX11_share_54 (lv_at hl 5 rfl) ?_
              obtain ⟨r56, hc56, hm⟩ := kbind hm
              refine kcV0 (st1 := [.int r56, .int v43_5]) X hA (c_X11_fromOf l G cI cZ cE a_t a_t_now a_t_text a_t_covers a_t_order a_t_way a_t_tried a_t_row a_t_lids a_t_shown a_t_seenKnot a_t_seenLid a_t_seenHad a_t_isKept a_t_kept k_t_knots k_t_readKnots k_t_length k_t_reached k_t_acts k_t_next k_t_seen k_t_seed f_t_now 0 v43_6 r56 hc56) (cwV 2 hts gX11_share_X11_fromOf rfl rfl rfl hd_X11_fromOf ⟨Nat.le_of_ble_eq_true rfl, Nat.le_of_ble_eq_true rfl⟩) 0 8 rfl rfl hl.1 dX11_share_56 hP hD hS [0, 1] rfl rfl rfl [.int v43_5] rfl (Nat.le_of_ble_eq_true rfl) rfl ⟨Nat.zero_le _, Nat.zero_le _⟩ (fun H locs hP hD hS => ?_)
              refine lv_iload_n hx hb dX11_share_59 rfl (lv_at hl 1 rfl) ?_
              refine lv_icmp_ne (tgt := 67) hx hb dX11_share_60 (by decide) (fun c60 => ?_) (fun c60 => ?_)
              · rw [if_neg c60] at hm
                refine lv_iconst (v := 0) hx hb dX11_share_67 (by decide) ?_
                refine lv_iadd hx hb dX11_share_68 ?_
                refine lv_istore (lv' := [(5, .int (v43_5 + 0)), (0, .ref a_t), (1, .int p1), (3, .int (bI p3)), (4, .int r22), (6, .int v43_6)]) hx hb dX11_share_69 hl (by decide) rfl (fun ls hl => ?_)
                refine lv_iinc (v := v43_6 + 1) (lv' := [(6, .int (v43_6 + 1)), (5, .int (v43_5 + 0)), (0, .ref a_t), (1, .int p1), (3, .int (bI p3)), (4, .int r22)]) hx hb dX11_share_71 hl (k := 5) rfl rfl (by decide) rfl (fun ls hl => ?_)
                refine lv_goto (tgt := 43) hx hb dX11_share_74 (by decide) ?_
                exact ih43 (v43_5 + 0) (v43_6 + 1) _ _ _ hP hD hS (lv_sub hl [2, 3, 4, 5, 1, 0] rfl) hm
              · rw [if_pos c60] at hm
                refine lv_iconst (v := 1) hx hb dX11_share_63 (by decide) ?_
                refine lv_goto (tgt := 68) hx hb dX11_share_64 (by decide) ?_
                refine lv_iadd hx hb dX11_share_68 ?_
                refine lv_istore (lv' := [(5, .int (v43_5 + 1)), (0, .ref a_t), (1, .int p1), (3, .int (bI p3)), (4, .int r22), (6, .int v43_6)]) hx hb dX11_share_69 hl (by decide) rfl (fun ls hl => ?_)
                refine lv_iinc (v := v43_6 + 1) (lv' := [(6, .int (v43_6 + 1)), (5, .int (v43_5 + 1)), (0, .ref a_t), (1, .int p1), (3, .int (bI p3)), (4, .int r22)]) hx hb dX11_share_71 hl (k := 5) rfl rfl (by decide) rfl (fun ls hl => ?_)
                refine lv_goto (tgt := 43) hx hb dX11_share_74 (by decide) ?_
                exact ih43 (v43_5 + 1) (v43_6 + 1) _ _ _ hP hD hS (lv_sub hl [2, 3, 4, 5, 1, 0] rfl) hm
        exact h43 kFU 0 0 _ _ _ hP hD hS (lv_sub hl [3, 4, 6, 2, 1, 0] rfl) hm
      · rw [if_pos c31] at hm
        refine lv_bipush (v := (-3)) hx hb dX11_share_34 (by decide) ?_
        have hm := Option.some.inj hm
        subst hm
        exact k_iret (v := (-3)) X rfl dX11_share_36 hP hD hS
    · have c13 := kb0 c13
      rw [if_neg c13] at hm
      refine lv_iconst (v := (-1)) hx hb dX11_share_16 (by decide) ?_
      have hm := Option.some.inj hm
      subst hm
      exact k_iret (v := (-1)) X rfl dX11_share_17 hP hD hS
theorem hd_X11_share : yX11_share.cls = RX11 ∧ yX11_share.cls ≠ "java/lang/invoke/MethodHandle" ∧ yX11_share.cls ≠ "java/lang/invoke/VarHandle" ∧ (parseMethodDescriptor yX11_share.desc).map (fun d => d.parameters.length) = some 3 := by decide +kernel
/-! CoverOrderModel spared -/
set_option maxRecDepth 100000 in
set_option maxHeartbeats 4000000 in
theorem c_X11_spared (l : Launch) (G : va_G) (cI cZ cE : ClassId) (a_t a_t_now a_t_text a_t_covers a_t_order a_t_way a_t_tried a_t_row a_t_lids a_t_shown a_t_seenKnot a_t_seenLid a_t_seenHad a_t_isKept a_t_kept : Nat) (k_t_knots : Int32) (k_t_readKnots : Int32) (k_t_length : Int32) (k_t_reached : Int32) (k_t_acts : Int32) (k_t_next : Int32) (k_t_seen : Int32) (k_t_seed : Int64) (f_t_now : Nat → Int32) (p1 : Int32) (p2 : Int32) (p3 : Int32) (p4 : Bool) (R : Int32) (hm : mX11_spared k_t_knots f_t_now p1 p2 p3 p4 = some R) : kM l yX11_spared wsX11_spared { frames := 2, cells := 0, slots := 0, locals := 53 } G cI cZ cE [.ref a_t, .int p1, .int p2, .int p3, .int (bI p4)] [(a_t, .inr (8, [.int k_t_knots, .ref a_t_now, .int k_t_readKnots, .ref a_t_text, .int k_t_length, .ref a_t_covers, .int k_t_reached, .ref a_t_order, .ref a_t_way, .ref a_t_tried, .int k_t_acts, .int k_t_next, .ref a_t_row, .ref a_t_lids, .ref a_t_shown, .int k_t_seen, .ref a_t_seenKnot, .ref a_t_seenLid, .ref a_t_seenHad, .long k_t_seed, .ref a_t_isKept, .ref a_t_kept])), (a_t_now, .inl (cI, 100, .inl f_t_now))] [(a_t, .inr (8, [.int k_t_knots, .ref a_t_now, .int k_t_readKnots, .ref a_t_text, .int k_t_length, .ref a_t_covers, .int k_t_reached, .ref a_t_order, .ref a_t_way, .ref a_t_tried, .int k_t_acts, .int k_t_next, .ref a_t_row, .ref a_t_lids, .ref a_t_shown, .int k_t_seen, .ref a_t_seenKnot, .ref a_t_seenLid, .ref a_t_seenHad, .long k_t_seed, .ref a_t_isKept, .ref a_t_kept])), (a_t_now, .inl (cI, 100, .inl f_t_now))] (some (.int R)) := by
  refine kM_of cX11_spared 11 (some .int) RX11 (by decide) rfl rfl (Nat.le_of_ble_eq_true rfl) ?_
  intro p e s m below meth c A ls X hA hP hD hS hl
  have hx := X.1.1
  have hb := X.1.2.1
  have hts := X.1.2.2.2.2
  have hown := X.1.2.2.2.1
  have hK := X.2.2.2.1
  have k_192 : (.constantLong RX11 192 (8) : Cond).before _ s = true := hts _ (List.mem_of_getElem? (i := 1) (by decide +kernel))
  have k_166 : (.constantLong RX11 166 (10) : Cond).before _ s = true := hts _ (List.mem_of_getElem? (i := 2) (by decide +kernel))
  have hl : lv_has ls 11 [(0, .ref a_t), (1, .int p1), (2, .int p2), (3, .int p3), (4, .int (bI p4))] := hl
  rw [mX11_spared] at hm
  refine lv_aload_n hx hb dX11_spared_0 rfl (lv_at hl 0 rfl) ?_
  refine lv_iload_n hx hb dX11_spared_1 rfl (lv_at hl 1 rfl) ?_
  refine kcV0 (st1 := [.int (bI (mX11_isKnot k_t_knots p1))]) X hA (c_X11_isKnot l G cI cZ cE a_t a_t_now a_t_text a_t_covers a_t_order a_t_way a_t_tried a_t_row a_t_lids a_t_shown a_t_seenKnot a_t_seenLid a_t_seenHad a_t_isKept a_t_kept k_t_knots k_t_readKnots k_t_length k_t_reached k_t_acts k_t_next k_t_seen k_t_seed p1 _ rfl) (cwV 1 hts gX11_spared_X11_isKnot rfl rfl rfl hd_X11_isKnot ⟨Nat.le_of_ble_eq_true rfl, Nat.le_of_ble_eq_true rfl⟩) 0 8 rfl rfl hl.1 dX11_spared_2 hP hD hS [0] rfl rfl rfl [] rfl (Nat.le_of_ble_eq_true rfl) rfl ⟨Nat.zero_le _, Nat.zero_le _⟩ (fun H locs hP hD hS => ?_)
  refine lv_if_ne (tgt := 10) hx hb dX11_spared_5 (by decide) (fun c5 => ?_) (fun c5 => ?_)
  · have c5 := kb1 c5
    rw [if_pos c5] at hm
    refine lv_iload_n hx hb dX11_spared_10 rfl (lv_at hl 2 rfl) ?_
    refine lv_i2l (v := (p2 : Int32).toInt64) hx hb dX11_spared_11 rfl ?_
    refine lv_lconst (v := 0) hx hb dX11_spared_12 (by decide) ?_
    refine lv_ldc2 (v := 8) hx hb hown k_192 dX11_spared_13 ?_
    refine kcS0 (st1 := [.int (bI (mX11_in ((p2 : Int32).toInt64) 0 8))]) X hA (c_X11_in l G cI cZ cE ((p2 : Int32).toInt64) 0 8 _ rfl) (va_cwS 3 hts gX11_spared_X11_in rfl rfl rfl hd_X11_in ⟨Nat.le_of_ble_eq_true rfl, Nat.le_of_ble_eq_true rfl⟩) hl.1 dX11_spared_16 hP hD hS [] rfl rfl rfl [] rfl (Nat.le_of_ble_eq_true rfl) rfl ⟨Nat.zero_le _, Nat.zero_le _⟩ (fun H locs hP hD hS => ?_)
    refine lv_if_eq (tgt := 34) hx hb dX11_spared_19 (by decide) (fun c19 => ?_) (fun c19 => ?_)
    · have c19 := kb0 c19
      rw [if_neg c19] at hm
      refine lv_bipush (v := (-2)) hx hb dX11_spared_34 (by decide) ?_
      have hm := Option.some.inj hm
      subst hm
      exact k_iret (v := (-2)) X rfl dX11_spared_36 hP hD hS
    · have c19 := kb1 c19
      rw [if_pos c19] at hm
      refine lv_iload_n hx hb dX11_spared_22 rfl (lv_at hl 3 rfl) ?_
      refine lv_i2l (v := (p3 : Int32).toInt64) hx hb dX11_spared_23 rfl ?_
      refine lv_lconst (v := 0) hx hb dX11_spared_24 (by decide) ?_
      refine lv_ldc2 (v := 10) hx hb hown k_166 dX11_spared_25 ?_
      refine kcS0 (st1 := [.int (bI (mX11_in ((p3 : Int32).toInt64) 0 10))]) X hA (c_X11_in l G cI cZ cE ((p3 : Int32).toInt64) 0 10 _ rfl) (va_cwS 3 hts gX11_spared_X11_in rfl rfl rfl hd_X11_in ⟨Nat.le_of_ble_eq_true rfl, Nat.le_of_ble_eq_true rfl⟩) hl.1 dX11_spared_28 hP hD hS [] rfl rfl rfl [] rfl (Nat.le_of_ble_eq_true rfl) rfl ⟨Nat.zero_le _, Nat.zero_le _⟩ (fun H locs hP hD hS => ?_)
      refine lv_if_ne (tgt := 37) hx hb dX11_spared_31 (by decide) (fun c31 => ?_) (fun c31 => ?_)
      · have c31 := kb1 c31
        rw [if_pos c31] at hm
        refine lv_aload_n hx hb dX11_spared_37 rfl (lv_at hl 0 rfl) ?_
        refine lv_iconst (v := 0) hx hb dX11_spared_38 (by decide) ?_
        refine lv_iload_n hx hb dX11_spared_39 rfl (lv_at hl 1 rfl) ?_
        obtain ⟨r40, hc40, hm⟩ := kbind hm
        refine kcV0 (st1 := [.int r40]) X hA (c_X11_outOf l G cI cZ cE a_t a_t_now a_t_text a_t_covers a_t_order a_t_way a_t_tried a_t_row a_t_lids a_t_shown a_t_seenKnot a_t_seenLid a_t_seenHad a_t_isKept a_t_kept k_t_knots k_t_readKnots k_t_length k_t_reached k_t_acts k_t_next k_t_seen k_t_seed f_t_now 0 p1 r40 hc40) (cwV 2 hts gX11_spared_X11_outOf rfl rfl rfl hd_X11_outOf ⟨Nat.le_of_ble_eq_true rfl, Nat.le_of_ble_eq_true rfl⟩) 0 8 rfl rfl hl.1 dX11_spared_40 hP hD hS [0, 1] rfl rfl rfl [] rfl (Nat.le_of_ble_eq_true rfl) rfl ⟨Nat.zero_le _, Nat.zero_le _⟩ (fun H locs hP hD hS => ?_)
        refine lv_istore (lv' := [(5, .int r40), (0, .ref a_t), (1, .int p1), (2, .int p2), (3, .int p3), (4, .int (bI p4))]) hx hb dX11_spared_43 hl (by decide) rfl (fun ls hl => ?_)
        refine lv_iconst (v := 0) hx hb dX11_spared_45 (by decide) ?_
        refine lv_istore (lv' := [(6, .int 0), (5, .int r40), (0, .ref a_t), (1, .int p1), (2, .int p2), (3, .int p3), (4, .int (bI p4))]) hx hb dX11_spared_46 hl (by decide) rfl (fun ls hl => ?_)
        refine lv_iconst (v := 0) hx hb dX11_spared_48 (by decide) ?_
        refine lv_istore (lv' := [(7, .int 0), (6, .int 0), (5, .int r40), (0, .ref a_t), (1, .int p1), (2, .int p2), (3, .int p3), (4, .int (bI p4))]) hx hb dX11_spared_49 hl (by decide) rfl (fun ls hl => ?_)
        refine lv_iconst (v := 0) hx hb dX11_spared_51 (by decide) ?_
        refine lv_istore (lv' := [(8, .int 0), (7, .int 0), (6, .int 0), (5, .int r40), (0, .ref a_t), (1, .int p1), (2, .int p2), (3, .int p3), (4, .int (bI p4))]) hx hb dX11_spared_52 hl (by decide) rfl (fun ls hl => ?_)
        have h54 : ∀ (n54 : Nat), ∀ (v54_6 : Int32) (v54_7 : Int32) (v54_8 : Int32) (H : Heap) (locs : List Loc) (ls : Array Slot), va_P G vwCl [(a_t, .inr (8, [.int k_t_knots, .ref a_t_now, .int k_t_readKnots, .ref a_t_text, .int k_t_length, .ref a_t_covers, .int k_t_reached, .ref a_t_order, .ref a_t_way, .ref a_t_tried, .int k_t_acts, .int k_t_next, .ref a_t_row, .ref a_t_lids, .ref a_t_shown, .int k_t_seen, .ref a_t_seenKnot, .ref a_t_seenLid, .ref a_t_seenHad, .long k_t_seed, .ref a_t_isKept, .ref a_t_kept])), (a_t_now, .inl (cI, 100, .inl f_t_now))] H → va_D A [(a_t, .inr (8, [.int k_t_knots, .ref a_t_now, .int k_t_readKnots, .ref a_t_text, .int k_t_length, .ref a_t_covers, .int k_t_reached, .ref a_t_order, .ref a_t_way, .ref a_t_tried, .int k_t_acts, .int k_t_next, .ref a_t_row, .ref a_t_lids, .ref a_t_shown, .int k_t_seen, .ref a_t_seenKnot, .ref a_t_seenLid, .ref a_t_seenHad, .long k_t_seed, .ref a_t_isKept, .ref a_t_kept])), (a_t_now, .inl (cI, 100, .inl f_t_now))] → va_S A s.heap H locs → lv_has ls 11 [(0, .ref a_t), (1, .int p1), (2, .int p2), (3, .int p3), (4, .int (bI p4)), (5, .int r40), (6, .int v54_6), (7, .int v54_7), (8, .int v54_8)] → mX11_spared_L54 f_t_now p1 p2 p3 p4 r40 n54 v54_6 v54_7 v54_8 = some R → W p l e { frames := 2, cells := 0, slots := 0, locals := 53 } s m ([.ref a_t, .int p1, .int p2, .int p3, .int (bI p4)] : List Value).toArray below meth c H locs 0 0 (kQ below G [(a_t, .inr (8, [.int k_t_knots, .ref a_t_now, .int k_t_readKnots, .ref a_t_text, .int k_t_length, .ref a_t_covers, .int k_t_reached, .ref a_t_order, .ref a_t_way, .ref a_t_tried, .int k_t_acts, .int k_t_next, .ref a_t_row, .ref a_t_lids, .ref a_t_shown, .int k_t_seen, .ref a_t_seenKnot, .ref a_t_seenLid, .ref a_t_seenHad, .long k_t_seed, .ref a_t_isKept, .ref a_t_kept])), (a_t_now, .inl (cI, 100, .inl f_t_now))] (some (.int R)) A ([.ref a_t, .int p1, .int p2, .int p3, .int (bI p4)] : List Value).toArray s) (F0 m 54 ls []) := by
          intro n54
          induction n54 with
          | zero => intro v54_6 v54_7 v54_8 H locs ls hP hD hS hl hm; rw [mX11_spared_L54] at hm; cases hm
          | succ n54 ih54 =>
            intro v54_6 v54_7 v54_8 H locs ls hP hD hS hl hm
            rw [mX11_spared_L54] at hm
            refine lv_iload hx hb dX11_spared_54 (lv_at hl 8 rfl) ?_
            refine lv_iconst (v := 1) hx hb dX11_spared_56 (by decide) ?_
            refine lv_iload hx hb dX11_spared_57 (lv_at hl 5 rfl) ?_
            refine lv_ishl hx hb dX11_spared_59 ?_
            have h146 : ∀ (H : Heap) (locs : List Loc) (ls : Array Slot), va_P G vwCl [(a_t, .inr (8, [.int k_t_knots, .ref a_t_now, .int k_t_readKnots, .ref a_t_text, .int k_t_length, .ref a_t_covers, .int k_t_reached, .ref a_t_order, .ref a_t_way, .ref a_t_tried, .int k_t_acts, .int k_t_next, .ref a_t_row, .ref a_t_lids, .ref a_t_shown, .int k_t_seen, .ref a_t_seenKnot, .ref a_t_seenLid, .ref a_t_seenHad, .long k_t_seed, .ref a_t_isKept, .ref a_t_kept])), (a_t_now, .inl (cI, 100, .inl f_t_now))] H → va_D A [(a_t, .inr (8, [.int k_t_knots, .ref a_t_now, .int k_t_readKnots, .ref a_t_text, .int k_t_length, .ref a_t_covers, .int k_t_reached, .ref a_t_order, .ref a_t_way, .ref a_t_tried, .int k_t_acts, .int k_t_next, .ref a_t_row, .ref a_t_lids, .ref a_t_shown, .int k_t_seen, .ref a_t_seenKnot, .ref a_t_seenLid, .ref a_t_seenHad, .long k_t_seed, .ref a_t_isKept, .ref a_t_kept])), (a_t_now, .inl (cI, 100, .inl f_t_now))] → va_S A s.heap H locs → lv_has ls 11 [(4, .int (bI p4)), (6, .int v54_6), (7, .int v54_7)] → mX11_spared_J146 p4 v54_6 v54_7 = some R → W p l e { frames := 2, cells := 0, slots := 0, locals := 53 } s m ([.ref a_t, .int p1, .int p2, .int p3, .int (bI p4)] : List Value).toArray below meth c H locs 0 0 (kQ below G [(a_t, .inr (8, [.int k_t_knots, .ref a_t_now, .int k_t_readKnots, .ref a_t_text, .int k_t_length, .ref a_t_covers, .int k_t_reached, .ref a_t_order, .ref a_t_way, .ref a_t_tried, .int k_t_acts, .int k_t_next, .ref a_t_row, .ref a_t_lids, .ref a_t_shown, .int k_t_seen, .ref a_t_seenKnot, .ref a_t_seenLid, .ref a_t_seenHad, .long k_t_seed, .ref a_t_isKept, .ref a_t_kept])), (a_t_now, .inl (cI, 100, .inl f_t_now))] (some (.int R)) A ([.ref a_t, .int p1, .int p2, .int p3, .int (bI p4)] : List Value).toArray s) (F0 m 146 ls []) := by
              intro H locs ls hP hD hS hl hm
              rw [mX11_spared_J146] at hm
              refine lv_iload hx hb dX11_spared_146 (lv_at hl 1 rfl) ?_
              refine lv_iload hx hb dX11_spared_148 (lv_at hl 2 rfl) ?_
              obtain ⟨r150, hc150, hm⟩ := kbind hm
              refine kcS0 (st1 := [.int r150]) X hA (c_X11_common l G cI cZ cE v54_6 v54_7 r150 hc150) (va_cwS 2 hts gX11_spared_X11_common rfl rfl rfl hd_X11_common ⟨Nat.le_of_ble_eq_true rfl, Nat.le_of_ble_eq_true rfl⟩) hl.1 dX11_spared_150 hP hD hS [] rfl rfl rfl [] rfl (Nat.le_of_ble_eq_true rfl) rfl ⟨Nat.zero_le _, Nat.zero_le _⟩ (fun H locs hP hD hS => ?_)
              refine lv_istore (lv' := [(8, .int r150), (4, .int (bI p4)), (6, .int v54_6), (7, .int v54_7)]) hx hb dX11_spared_153 hl (by decide) rfl (fun ls hl => ?_)
              refine lv_iload hx hb dX11_spared_155 (lv_at hl 1 rfl) ?_
              refine lv_if_eq (tgt := 168) hx hb dX11_spared_157 (by decide) (fun c157 => ?_) (fun c157 => ?_)
              · have c157 := kb0 c157
                rw [if_neg c157] at hm
                refine lv_iload hx hb dX11_spared_168 (lv_at hl 3 rfl) ?_
                refine lv_iload hx hb dX11_spared_170 (lv_at hl 0 rfl) ?_
                obtain ⟨g172, hm⟩ := gd_some hm
                refine lv_idiv hx hb dX11_spared_172 (kne_ok g172) ?_
                have hm := Option.some.inj hm
                subst hm
                exact k_iret (v := v54_7 / r150) X rfl dX11_spared_173 hP hD hS
              · have c157 := kb1 c157
                rw [if_pos c157] at hm
                refine lv_iload hx hb dX11_spared_160 (lv_at hl 2 rfl) ?_
                refine lv_iload hx hb dX11_spared_162 (lv_at hl 0 rfl) ?_
                obtain ⟨g164, hm⟩ := gd_some hm
                refine lv_idiv hx hb dX11_spared_164 (kne_ok g164) ?_
                refine lv_goto (tgt := 173) hx hb dX11_spared_165 (by decide) ?_
                have hm := Option.some.inj hm
                subst hm
                exact k_iret (v := v54_6 / r150) X rfl dX11_spared_173 hP hD hS
            refine lv_icmp_ge (tgt := 146) hx hb dX11_spared_60 (by decide) (fun c60 => ?_) (fun c60 => ?_)
            · rw [if_pos c60] at hm
              exact h146 _ _ _ hP hD hS (lv_sub hl [4, 6, 7] rfl) hm
            · rw [if_neg c60] at hm
              refine lv_iconst (v := 1) hx hb dX11_spared_63 (by decide) ?_
              refine lv_istore (lv' := [(9, .int 1), (0, .ref a_t), (1, .int p1), (2, .int p2), (3, .int p3), (4, .int (bI p4)), (5, .int r40), (6, .int v54_6), (7, .int v54_7), (8, .int v54_8)]) hx hb dX11_spared_64 hl (by decide) rfl (fun ls hl => ?_)
              refine lv_iconst (v := 0) hx hb dX11_spared_66 (by decide) ?_
              refine lv_istore (lv' := [(10, .int 0), (9, .int 1), (0, .ref a_t), (1, .int p1), (2, .int p2), (3, .int p3), (4, .int (bI p4)), (5, .int r40), (6, .int v54_6), (7, .int v54_7), (8, .int v54_8)]) hx hb dX11_spared_67 hl (by decide) rfl (fun ls hl => ?_)
              have h69 : ∀ (n69 : Nat), ∀ (v69_9 : Int32) (v69_10 : Int32) (H : Heap) (locs : List Loc) (ls : Array Slot), va_P G vwCl [(a_t, .inr (8, [.int k_t_knots, .ref a_t_now, .int k_t_readKnots, .ref a_t_text, .int k_t_length, .ref a_t_covers, .int k_t_reached, .ref a_t_order, .ref a_t_way, .ref a_t_tried, .int k_t_acts, .int k_t_next, .ref a_t_row, .ref a_t_lids, .ref a_t_shown, .int k_t_seen, .ref a_t_seenKnot, .ref a_t_seenLid, .ref a_t_seenHad, .long k_t_seed, .ref a_t_isKept, .ref a_t_kept])), (a_t_now, .inl (cI, 100, .inl f_t_now))] H → va_D A [(a_t, .inr (8, [.int k_t_knots, .ref a_t_now, .int k_t_readKnots, .ref a_t_text, .int k_t_length, .ref a_t_covers, .int k_t_reached, .ref a_t_order, .ref a_t_way, .ref a_t_tried, .int k_t_acts, .int k_t_next, .ref a_t_row, .ref a_t_lids, .ref a_t_shown, .int k_t_seen, .ref a_t_seenKnot, .ref a_t_seenLid, .ref a_t_seenHad, .long k_t_seed, .ref a_t_isKept, .ref a_t_kept])), (a_t_now, .inl (cI, 100, .inl f_t_now))] → va_S A s.heap H locs → lv_has ls 11 [(0, .ref a_t), (1, .int p1), (2, .int p2), (3, .int p3), (4, .int (bI p4)), (5, .int r40), (6, .int v54_6), (7, .int v54_7), (8, .int v54_8), (9, .int v69_9), (10, .int v69_10)] → mX11_spared_L69 (mX11_spared_L54 f_t_now p1 p2 p3 p4 r40 n54) f_t_now p1 p2 p3 r40 v54_6 v54_7 v54_8 n69 v69_9 v69_10 = some R → W p l e { frames := 2, cells := 0, slots := 0, locals := 53 } s m ([.ref a_t, .int p1, .int p2, .int p3, .int (bI p4)] : List Value).toArray below meth c H locs 0 0 (kQ below G [(a_t, .inr (8, [.int k_t_knots, .ref a_t_now, .int k_t_readKnots, .ref a_t_text, .int k_t_length, .ref a_t_covers, .int k_t_reached, .ref a_t_order, .ref a_t_way, .ref a_t_tried, .int k_t_acts, .int k_t_next, .ref a_t_row, .ref a_t_lids, .ref a_t_shown, .int k_t_seen, .ref a_t_seenKnot, .ref a_t_seenLid, .ref a_t_seenHad, .long k_t_seed, .ref a_t_isKept, .ref a_t_kept])), (a_t_now, .inl (cI, 100, .inl f_t_now))] (some (.int R)) A ([.ref a_t, .int p1, .int p2, .int p3, .int (bI p4)] : List Value).toArray s) (F0 m 69 ls []) := by
                intro n69
                induction n69 with
                | zero => intro v69_9 v69_10 H locs ls hP hD hS hl hm; rw [mX11_spared_L69] at hm; cases hm
                | succ n69 ih69 =>
                  intro v69_9 v69_10 H locs ls hP hD hS hl hm
                  rw [mX11_spared_L69] at hm
                  refine lv_iload hx hb dX11_spared_69 (lv_at hl 10 rfl) ?_
                  refine lv_iload hx hb dX11_spared_71 (lv_at hl 5 rfl) ?_
                  have h105 : ∀ (H : Heap) (locs : List Loc) (ls : Array Slot), va_P G vwCl [(a_t, .inr (8, [.int k_t_knots, .ref a_t_now, .int k_t_readKnots, .ref a_t_text, .int k_t_length, .ref a_t_covers, .int k_t_reached, .ref a_t_order, .ref a_t_way, .ref a_t_tried, .int k_t_acts, .int k_t_next, .ref a_t_row, .ref a_t_lids, .ref a_t_shown, .int k_t_seen, .ref a_t_seenKnot, .ref a_t_seenLid, .ref a_t_seenHad, .long k_t_seed, .ref a_t_isKept, .ref a_t_kept])), (a_t_now, .inl (cI, 100, .inl f_t_now))] H → va_D A [(a_t, .inr (8, [.int k_t_knots, .ref a_t_now, .int k_t_readKnots, .ref a_t_text, .int k_t_length, .ref a_t_covers, .int k_t_reached, .ref a_t_order, .ref a_t_way, .ref a_t_tried, .int k_t_acts, .int k_t_next, .ref a_t_row, .ref a_t_lids, .ref a_t_shown, .int k_t_seen, .ref a_t_seenKnot, .ref a_t_seenLid, .ref a_t_seenHad, .long k_t_seed, .ref a_t_isKept, .ref a_t_kept])), (a_t_now, .inl (cI, 100, .inl f_t_now))] → va_S A s.heap H locs → lv_has ls 11 [(0, .ref a_t), (1, .int p1), (2, .int p2), (3, .int p3), (4, .int (bI p4)), (5, .int r40), (6, .int v54_6), (7, .int v54_7), (8, .int v54_8), (9, .int v69_9)] → mX11_spared_J105 (mX11_spared_L54 f_t_now p1 p2 p3 p4 r40 n54) f_t_now p1 p2 v54_6 v54_7 v54_8 v69_9 = some R → W p l e { frames := 2, cells := 0, slots := 0, locals := 53 } s m ([.ref a_t, .int p1, .int p2, .int p3, .int (bI p4)] : List Value).toArray below meth c H locs 0 0 (kQ below G [(a_t, .inr (8, [.int k_t_knots, .ref a_t_now, .int k_t_readKnots, .ref a_t_text, .int k_t_length, .ref a_t_covers, .int k_t_reached, .ref a_t_order, .ref a_t_way, .ref a_t_tried, .int k_t_acts, .int k_t_next, .ref a_t_row, .ref a_t_lids, .ref a_t_shown, .int k_t_seen, .ref a_t_seenKnot, .ref a_t_seenLid, .ref a_t_seenHad, .long k_t_seed, .ref a_t_isKept, .ref a_t_kept])), (a_t_now, .inl (cI, 100, .inl f_t_now))] (some (.int R)) A ([.ref a_t, .int p1, .int p2, .int p3, .int (bI p4)] : List Value).toArray s) (F0 m 105 ls []) := by
                    intro H locs ls hP hD hS hl hm
                    rw [mX11_spared_J105] at hm
                    refine lv_iload hx hb dX11_spared_105 (lv_at hl 7 rfl) ?_
                    refine lv_iload hx hb dX11_spared_107 (lv_at hl 9 rfl) ?_
                    refine lv_iadd hx hb dX11_spared_109 ?_
                    refine lv_istore (lv' := [(7, .int (v54_7 + v69_9)), (0, .ref a_t), (1, .int p1), (2, .int p2), (3, .int p3), (4, .int (bI p4)), (5, .int r40), (6, .int v54_6), (8, .int v54_8), (9, .int v69_9)]) hx hb dX11_spared_110 hl (by decide) rfl (fun ls hl => ?_)
                    refine lv_iload hx hb dX11_spared_112 (lv_at hl 7 rfl) ?_
                    refine lv_aload_n hx hb dX11_spared_114 rfl (lv_at hl 1 rfl) ?_
                    refine lv_iconst (v := 0) hx hb dX11_spared_115 (by decide) ?_
                    refine lv_bipush (v := (-9)) hx hb dX11_spared_116 (by decide) ?_
                    refine lv_iload_n hx hb dX11_spared_118 rfl (lv_at hl 2 rfl) ?_
                    refine lv_iload hx hb dX11_spared_119 (lv_at hl 8 rfl) ?_
                    obtain ⟨r121, hc121, hm⟩ := kbind hm
                    refine kcV0 (st1 := [.int r121, .int v54_6]) X hA (c_X11_reachedBy l G cI cZ cE a_t a_t_now a_t_text a_t_covers a_t_order a_t_way a_t_tried a_t_row a_t_lids a_t_shown a_t_seenKnot a_t_seenLid a_t_seenHad a_t_isKept a_t_kept k_t_knots k_t_readKnots k_t_length k_t_reached k_t_acts k_t_next k_t_seen k_t_seed f_t_now 0 (-9) p1 v54_8 r121 hc121) (cwV 4 hts gX11_spared_X11_reachedBy rfl rfl rfl hd_X11_reachedBy ⟨Nat.le_of_ble_eq_true rfl, Nat.le_of_ble_eq_true rfl⟩) 0 8 rfl rfl hl.1 dX11_spared_121 hP hD hS [0, 1] rfl rfl rfl [.int v54_6] rfl (Nat.le_of_ble_eq_true rfl) rfl ⟨Nat.zero_le _, Nat.zero_le _⟩ (fun H locs hP hD hS => ?_)
                    obtain ⟨r124, hc124, hm⟩ := kbind hm
                    refine kcS0 (st1 := [.int r124, .int v54_6]) X hA (c_X11_ones l G cI cZ cE r121 r124 hc124) (va_cwS 1 hts gX11_spared_X11_ones rfl rfl rfl hd_X11_ones ⟨Nat.le_of_ble_eq_true rfl, Nat.le_of_ble_eq_true rfl⟩) hl.1 dX11_spared_124 hP hD hS [] rfl rfl rfl [.int v54_6] rfl (Nat.le_of_ble_eq_true rfl) rfl ⟨Nat.zero_le _, Nat.zero_le _⟩ (fun H locs hP hD hS => ?_)
                    refine lv_iload_n hx hb dX11_spared_127 rfl (lv_at hl 3 rfl) ?_
                    refine lv_icmp_lt (tgt := 136) hx hb dX11_spared_128 (by decide) (fun c128 => ?_) (fun c128 => ?_)
                    · rw [if_pos c128] at hm
                      refine lv_iconst (v := 0) hx hb dX11_spared_136 (by decide) ?_
                      refine lv_iadd hx hb dX11_spared_137 ?_
                      refine lv_istore (lv' := [(6, .int (v54_6 + 0)), (7, .int (v54_7 + v69_9)), (0, .ref a_t), (1, .int p1), (2, .int p2), (3, .int p3), (4, .int (bI p4)), (5, .int r40), (8, .int v54_8), (9, .int v69_9)]) hx hb dX11_spared_138 hl (by decide) rfl (fun ls hl => ?_)
                      refine lv_iinc (v := v54_8 + 1) (lv' := [(8, .int (v54_8 + 1)), (6, .int (v54_6 + 0)), (7, .int (v54_7 + v69_9)), (0, .ref a_t), (1, .int p1), (2, .int p2), (3, .int p3), (4, .int (bI p4)), (5, .int r40), (9, .int v69_9)]) hx hb dX11_spared_140 hl (k := 8) rfl rfl (by decide) rfl (fun ls hl => ?_)
                      refine lv_goto (tgt := 54) hx hb dX11_spared_143 (by decide) ?_
                      exact ih54 (v54_6 + 0) (v54_7 + v69_9) (v54_8 + 1) _ _ _ hP hD hS (lv_sub hl [3, 4, 5, 6, 7, 8, 1, 2, 0] rfl) hm
                    · rw [if_neg c128] at hm
                      refine lv_iload hx hb dX11_spared_131 (lv_at hl 9 rfl) ?_
                      refine lv_goto (tgt := 137) hx hb dX11_spared_133 (by decide) ?_
                      refine lv_iadd hx hb dX11_spared_137 ?_
                      refine lv_istore (lv' := [(6, .int (v54_6 + v69_9)), (7, .int (v54_7 + v69_9)), (0, .ref a_t), (1, .int p1), (2, .int p2), (3, .int p3), (4, .int (bI p4)), (5, .int r40), (8, .int v54_8), (9, .int v69_9)]) hx hb dX11_spared_138 hl (by decide) rfl (fun ls hl => ?_)
                      refine lv_iinc (v := v54_8 + 1) (lv' := [(8, .int (v54_8 + 1)), (6, .int (v54_6 + v69_9)), (7, .int (v54_7 + v69_9)), (0, .ref a_t), (1, .int p1), (2, .int p2), (3, .int p3), (4, .int (bI p4)), (5, .int r40), (9, .int v69_9)]) hx hb dX11_spared_140 hl (k := 8) rfl rfl (by decide) rfl (fun ls hl => ?_)
                      refine lv_goto (tgt := 54) hx hb dX11_spared_143 (by decide) ?_
                      exact ih54 (v54_6 + v69_9) (v54_7 + v69_9) (v54_8 + 1) _ _ _ hP hD hS (lv_sub hl [3, 4, 5, 6, 7, 8, 1, 2, 0] rfl) hm
                  refine lv_icmp_ge (tgt := 105) hx hb dX11_spared_73 (by decide) (fun c73 => ?_) (fun c73 => ?_)
                  · rw [if_pos c73] at hm
                    exact h105 _ _ _ hP hD hS (lv_sub hl [0, 1, 2, 3, 4, 5, 6, 7, 8, 9] rfl) hm
                  · rw [if_neg c73] at hm
                    refine lv_iload hx hb dX11_spared_76 (lv_at hl 9 rfl) ?_
                    refine lv_iload hx hb dX11_spared_78 (lv_at hl 8 rfl) ?_
                    refine lv_iload hx hb dX11_spared_80 (lv_at hl 10 rfl) ?_
                    refine kcS0 (st1 := [.int (bI (mX11_has v54_8 v69_10)), .int v69_9]) X hA (c_X11_has l G cI cZ cE v54_8 v69_10 _ rfl) (va_cwS 2 hts gX11_spared_X11_has rfl rfl rfl hd_X11_has ⟨Nat.le_of_ble_eq_true rfl, Nat.le_of_ble_eq_true rfl⟩) hl.1 dX11_spared_82 hP hD hS [] rfl rfl rfl [.int v69_9] rfl (Nat.le_of_ble_eq_true rfl) rfl ⟨Nat.zero_le _, Nat.zero_le _⟩ (fun H locs hP hD hS => ?_)
                    refine lv_if_eq (tgt := 95) hx hb dX11_spared_85 (by decide) (fun c85 => ?_) (fun c85 => ?_)
                    · have c85 := kb0 c85
                      rw [if_neg c85] at hm
                      refine lv_iload_n hx hb dX11_spared_95 rfl (lv_at hl 3 rfl) ?_
                      refine lv_imul hx hb dX11_spared_96 ?_
                      refine lv_istore (lv' := [(9, .int (v69_9 * p3)), (0, .ref a_t), (1, .int p1), (2, .int p2), (3, .int p3), (4, .int (bI p4)), (5, .int r40), (6, .int v54_6), (7, .int v54_7), (8, .int v54_8), (10, .int v69_10)]) hx hb dX11_spared_97 hl (by decide) rfl (fun ls hl => ?_)
                      refine lv_iinc (v := v69_10 + 1) (lv' := [(10, .int (v69_10 + 1)), (9, .int (v69_9 * p3)), (0, .ref a_t), (1, .int p1), (2, .int p2), (3, .int p3), (4, .int (bI p4)), (5, .int r40), (6, .int v54_6), (7, .int v54_7), (8, .int v54_8)]) hx hb dX11_spared_99 hl (k := 10) rfl rfl (by decide) rfl (fun ls hl => ?_)
                      refine lv_goto (tgt := 69) hx hb dX11_spared_102 (by decide) ?_
                      exact ih69 (v69_9 * p3) (v69_10 + 1) _ _ _ hP hD hS (lv_sub hl [2, 3, 4, 5, 6, 7, 8, 9, 10, 1, 0] rfl) hm
                    · have c85 := kb1 c85
                      rw [if_pos c85] at hm
                      refine lv_bipush (v := 10) hx hb dX11_spared_88 (by decide) ?_
                      refine lv_iload_n hx hb dX11_spared_90 rfl (lv_at hl 3 rfl) ?_
                      refine lv_isub hx hb dX11_spared_91 ?_
                      refine lv_goto (tgt := 96) hx hb dX11_spared_92 (by decide) ?_
                      refine lv_imul hx hb dX11_spared_96 ?_
                      refine lv_istore (lv' := [(9, .int (v69_9 * (10 - p3))), (0, .ref a_t), (1, .int p1), (2, .int p2), (3, .int p3), (4, .int (bI p4)), (5, .int r40), (6, .int v54_6), (7, .int v54_7), (8, .int v54_8), (10, .int v69_10)]) hx hb dX11_spared_97 hl (by decide) rfl (fun ls hl => ?_)
                      refine lv_iinc (v := v69_10 + 1) (lv' := [(10, .int (v69_10 + 1)), (9, .int (v69_9 * (10 - p3))), (0, .ref a_t), (1, .int p1), (2, .int p2), (3, .int p3), (4, .int (bI p4)), (5, .int r40), (6, .int v54_6), (7, .int v54_7), (8, .int v54_8)]) hx hb dX11_spared_99 hl (k := 10) rfl rfl (by decide) rfl (fun ls hl => ?_)
                      refine lv_goto (tgt := 69) hx hb dX11_spared_102 (by decide) ?_
                      exact ih69 (v69_9 * (10 - p3)) (v69_10 + 1) _ _ _ hP hD hS (lv_sub hl [2, 3, 4, 5, 6, 7, 8, 9, 10, 1, 0] rfl) hm
              exact h69 kFU 1 0 _ _ _ hP hD hS (lv_sub hl [2, 3, 4, 5, 6, 7, 8, 9, 10, 1, 0] rfl) hm
        exact h54 kFU 0 0 0 _ _ _ hP hD hS (lv_sub hl [4, 5, 6, 7, 8, 3, 2, 1, 0] rfl) hm
      · have c31 := kb0 c31
        rw [if_neg c31] at hm
        refine lv_bipush (v := (-2)) hx hb dX11_spared_34 (by decide) ?_
        have hm := Option.some.inj hm
        subst hm
        exact k_iret (v := (-2)) X rfl dX11_spared_36 hP hD hS
  · have c5 := kb0 c5
    rw [if_neg c5] at hm
    refine lv_iconst (v := (-1)) hx hb dX11_spared_8 (by decide) ?_
    have hm := Option.some.inj hm
    subst hm
    exact k_iret (v := (-1)) X rfl dX11_spared_9 hP hD hS
theorem hd_X11_spared : yX11_spared.cls = RX11 ∧ yX11_spared.cls ≠ "java/lang/invoke/MethodHandle" ∧ yX11_spared.cls ≠ "java/lang/invoke/VarHandle" ∧ (parseMethodDescriptor yX11_spared.desc).map (fun d => d.parameters.length) = some 4 := by decide +kernel
/-! CoverOrderModel seed -/
set_option maxRecDepth 100000 in
set_option maxHeartbeats 4000000 in
theorem c_X11_seed (l : Launch) (G : va_G) (cI cZ cE : ClassId) (a_t a_t_now a_t_text a_t_covers a_t_order a_t_way a_t_tried a_t_row a_t_lids a_t_shown a_t_seenKnot a_t_seenLid a_t_seenHad a_t_isKept a_t_kept : Nat) (k_t_knots : Int32) (k_t_readKnots : Int32) (k_t_length : Int32) (k_t_reached : Int32) (k_t_acts : Int32) (k_t_next : Int32) (k_t_seen : Int32) (k_t_seed : Int64) (p1 : Int64) (R : Int64 × Int64) (hm : mX11_seed k_t_seed p1 = R) : kM l yX11_seed wsX11_seed { frames := 0, cells := 0, slots := 0, locals := 0 } G cI cZ cE [.ref a_t, .long p1] [(a_t, .inr (8, [.int k_t_knots, .ref a_t_now, .int k_t_readKnots, .ref a_t_text, .int k_t_length, .ref a_t_covers, .int k_t_reached, .ref a_t_order, .ref a_t_way, .ref a_t_tried, .int k_t_acts, .int k_t_next, .ref a_t_row, .ref a_t_lids, .ref a_t_shown, .int k_t_seen, .ref a_t_seenKnot, .ref a_t_seenLid, .ref a_t_seenHad, .long k_t_seed, .ref a_t_isKept, .ref a_t_kept]))] [(a_t, .inr (8, [.int k_t_knots, .ref a_t_now, .int k_t_readKnots, .ref a_t_text, .int k_t_length, .ref a_t_covers, .int k_t_reached, .ref a_t_order, .ref a_t_way, .ref a_t_tried, .int k_t_acts, .int k_t_next, .ref a_t_row, .ref a_t_lids, .ref a_t_shown, .int k_t_seen, .ref a_t_seenKnot, .ref a_t_seenLid, .ref a_t_seenHad, .long R.2, .ref a_t_isKept, .ref a_t_kept]))] (some (.long R.1)) := by
  refine kM_of cX11_seed 5 (some .long) RX11 (by decide) rfl rfl (Nat.le_of_ble_eq_true rfl) ?_
  intro p e s m below meth c A ls X hA hP hD hS hl
  have hx := X.1.1
  have hb := X.1.2.1
  have hts := X.1.2.2.2.2
  have hown := X.1.2.2.2.1
  have hK := X.2.2.2.1
  have l_194 : (.fieldLink RX11 194 "CoverOrderModel" "seed" "J" : Cond).before _ s = true := hts _ (List.mem_of_getElem? (i := 1) (by decide +kernel))
  have i_X11 : ∀ w ∈ u_ws RX11 TX11 22, w ∈ wsX11_seed := k_in _ [2, 3, 4, 5, 6, 7, 8, 9, 10, 11, 12, 13, 14, 15, 16, 17, 18, 19, 20, 21, 22, 23] (by decide +kernel)
  have hl : lv_has ls 5 [(0, .ref a_t), (1, .long p1)] := hl
  rw [mX11_seed] at hm
  refine lv_aload_n hx hb dX11_seed_0 rfl (lv_at hl 0 rfl) ?_
  refine va_get (D := G) (ci := 8) (v := .long k_t_seed) (C := RX11) (T := TX11) (N := 22) hx hb hts i_X11 hown hK hP 0 rfl rfl 19 (by decide) l_194 (fun _ h9 => h9) rfl dX11_seed_1 ?_
  refine lv_lstore_n (lv' := [(3, .long k_t_seed), (0, .ref a_t), (1, .long p1)]) hx hb dX11_seed_4 rfl hl (by decide) rfl (fun ls hl => ?_)
  refine lv_aload_n hx hb dX11_seed_5 rfl (lv_at hl 1 rfl) ?_
  refine lv_lload_n hx hb dX11_seed_6 rfl (lv_at hl 2 rfl) ?_
  refine va_put (D := G) (ci := 8) (v := .long p1) (ty := .long) (C := RX11) (T := TX11) (N := 22) hx hb hts i_X11 tyX11 tyX11_ok nmX11 hown hK hP hD hS 0 rfl rfl 19 (by decide) l_194 (fun _ h9 => h9) rfl (by decide +kernel) rfl rfl (Nat.le_of_ble_eq_true rfl) dX11_seed_7 (fun H locs hP hD hS => ?_)
  have hP : va_P G vwCl [(a_t, .inr (8, [.int k_t_knots, .ref a_t_now, .int k_t_readKnots, .ref a_t_text, .int k_t_length, .ref a_t_covers, .int k_t_reached, .ref a_t_order, .ref a_t_way, .ref a_t_tried, .int k_t_acts, .int k_t_next, .ref a_t_row, .ref a_t_lids, .ref a_t_shown, .int k_t_seen, .ref a_t_seenKnot, .ref a_t_seenLid, .ref a_t_seenHad, .long p1, .ref a_t_isKept, .ref a_t_kept]))] H := hP
  have hD : va_D A [(a_t, .inr (8, [.int k_t_knots, .ref a_t_now, .int k_t_readKnots, .ref a_t_text, .int k_t_length, .ref a_t_covers, .int k_t_reached, .ref a_t_order, .ref a_t_way, .ref a_t_tried, .int k_t_acts, .int k_t_next, .ref a_t_row, .ref a_t_lids, .ref a_t_shown, .int k_t_seen, .ref a_t_seenKnot, .ref a_t_seenLid, .ref a_t_seenHad, .long p1, .ref a_t_isKept, .ref a_t_kept]))] := hD
  refine lv_lload_n hx hb dX11_seed_10 rfl (lv_at hl 0 rfl) ?_
  subst hm
  exact k_lret X rfl dX11_seed_11 hP hD hS
theorem hd_X11_seed : yX11_seed.cls = RX11 ∧ yX11_seed.cls ≠ "java/lang/invoke/MethodHandle" ∧ yX11_seed.cls ≠ "java/lang/invoke/VarHandle" ∧ (parseMethodDescriptor yX11_seed.desc).map (fun d => d.parameters.length) = some 1 := by decide +kernel
/-! CoverOrderModel depthsTogether -/
set_option maxRecDepth 100000 in
set_option maxHeartbeats 4000000 in
theorem c_X11_depthsTogether (l : Launch) (G : va_G) (cI cZ cE : ClassId) (a_t a_t_now a_t_text a_t_covers a_t_order a_t_way a_t_tried a_t_row a_t_lids a_t_shown a_t_seenKnot a_t_seenLid a_t_seenHad a_t_isKept a_t_kept : Nat) (k_t_knots : Int32) (k_t_readKnots : Int32) (k_t_length : Int32) (k_t_reached : Int32) (k_t_acts : Int32) (k_t_next : Int32) (k_t_seen : Int32) (k_t_seed : Int64) (f_t_covers : Nat → Int32) (R : Int32) (hm : mX11_depthsTogether k_t_reached f_t_covers = some R) : kM l yX11_depthsTogether wsX11_depthsTogether { frames := 2, cells := 0, slots := 0, locals := 43 } G cI cZ cE [.ref a_t] [(a_t, .inr (8, [.int k_t_knots, .ref a_t_now, .int k_t_readKnots, .ref a_t_text, .int k_t_length, .ref a_t_covers, .int k_t_reached, .ref a_t_order, .ref a_t_way, .ref a_t_tried, .int k_t_acts, .int k_t_next, .ref a_t_row, .ref a_t_lids, .ref a_t_shown, .int k_t_seen, .ref a_t_seenKnot, .ref a_t_seenLid, .ref a_t_seenHad, .long k_t_seed, .ref a_t_isKept, .ref a_t_kept])), (a_t_covers, .inl (cI, 8, .inl f_t_covers))] [(a_t, .inr (8, [.int k_t_knots, .ref a_t_now, .int k_t_readKnots, .ref a_t_text, .int k_t_length, .ref a_t_covers, .int k_t_reached, .ref a_t_order, .ref a_t_way, .ref a_t_tried, .int k_t_acts, .int k_t_next, .ref a_t_row, .ref a_t_lids, .ref a_t_shown, .int k_t_seen, .ref a_t_seenKnot, .ref a_t_seenLid, .ref a_t_seenHad, .long k_t_seed, .ref a_t_isKept, .ref a_t_kept])), (a_t_covers, .inl (cI, 8, .inl f_t_covers))] (some (.int R)) := by
  refine kM_of cX11_depthsTogether 3 (some .int) RX11 (by decide) rfl rfl (Nat.le_of_ble_eq_true rfl) ?_
  intro p e s m below meth c A ls X hA hP hD hS hl
  have hx := X.1.1
  have hb := X.1.2.1
  have hts := X.1.2.2.2.2
  have hown := X.1.2.2.2.1
  have hK := X.2.2.2.1
  have l_110 : (.fieldLink RX11 110 "CoverOrderModel" "reached" "I" : Cond).before _ s = true := hts _ (List.mem_of_getElem? (i := 1) (by decide +kernel))
  have i_X11 : ∀ w ∈ u_ws RX11 TX11 22, w ∈ wsX11_depthsTogether := k_in _ [14, 15, 16, 17, 18, 19, 20, 21, 22, 23, 24, 25, 26, 27, 28, 29, 30, 31, 32, 33, 34, 35] (by decide +kernel)
  have hl : lv_has ls 3 [(0, .ref a_t)] := hl
  rw [mX11_depthsTogether] at hm
  refine lv_iconst (v := 0) hx hb dX11_depthsTogether_0 (by decide) ?_
  refine lv_istore_n (lv' := [(1, .int 0), (0, .ref a_t)]) hx hb dX11_depthsTogether_1 rfl hl (by decide) rfl (fun ls hl => ?_)
  refine lv_iconst (v := 0) hx hb dX11_depthsTogether_2 (by decide) ?_
  refine lv_istore_n (lv' := [(2, .int 0), (1, .int 0), (0, .ref a_t)]) hx hb dX11_depthsTogether_3 rfl hl (by decide) rfl (fun ls hl => ?_)
  have h4 : ∀ (n4 : Nat), ∀ (v4_1 : Int32) (v4_2 : Int32) (H : Heap) (locs : List Loc) (ls : Array Slot), va_P G vwCl [(a_t, .inr (8, [.int k_t_knots, .ref a_t_now, .int k_t_readKnots, .ref a_t_text, .int k_t_length, .ref a_t_covers, .int k_t_reached, .ref a_t_order, .ref a_t_way, .ref a_t_tried, .int k_t_acts, .int k_t_next, .ref a_t_row, .ref a_t_lids, .ref a_t_shown, .int k_t_seen, .ref a_t_seenKnot, .ref a_t_seenLid, .ref a_t_seenHad, .long k_t_seed, .ref a_t_isKept, .ref a_t_kept])), (a_t_covers, .inl (cI, 8, .inl f_t_covers))] H → va_D A [(a_t, .inr (8, [.int k_t_knots, .ref a_t_now, .int k_t_readKnots, .ref a_t_text, .int k_t_length, .ref a_t_covers, .int k_t_reached, .ref a_t_order, .ref a_t_way, .ref a_t_tried, .int k_t_acts, .int k_t_next, .ref a_t_row, .ref a_t_lids, .ref a_t_shown, .int k_t_seen, .ref a_t_seenKnot, .ref a_t_seenLid, .ref a_t_seenHad, .long k_t_seed, .ref a_t_isKept, .ref a_t_kept])), (a_t_covers, .inl (cI, 8, .inl f_t_covers))] → va_S A s.heap H locs → lv_has ls 3 [(0, .ref a_t), (1, .int v4_1), (2, .int v4_2)] → mX11_depthsTogether_L4 k_t_reached f_t_covers n4 v4_1 v4_2 = some R → W p l e { frames := 2, cells := 0, slots := 0, locals := 43 } s m ([.ref a_t] : List Value).toArray below meth c H locs 0 0 (kQ below G [(a_t, .inr (8, [.int k_t_knots, .ref a_t_now, .int k_t_readKnots, .ref a_t_text, .int k_t_length, .ref a_t_covers, .int k_t_reached, .ref a_t_order, .ref a_t_way, .ref a_t_tried, .int k_t_acts, .int k_t_next, .ref a_t_row, .ref a_t_lids, .ref a_t_shown, .int k_t_seen, .ref a_t_seenKnot, .ref a_t_seenLid, .ref a_t_seenHad, .long k_t_seed, .ref a_t_isKept, .ref a_t_kept])), (a_t_covers, .inl (cI, 8, .inl f_t_covers))] (some (.int R)) A ([.ref a_t] : List Value).toArray s) (F0 m 4 ls []) := by
    intro n4
    induction n4 with
    | zero => intro v4_1 v4_2 H locs ls hP hD hS hl hm; rw [mX11_depthsTogether_L4] at hm; cases hm
    | succ n4 ih4 =>
      intro v4_1 v4_2 H locs ls hP hD hS hl hm
      rw [mX11_depthsTogether_L4] at hm
      refine lv_iload_n hx hb dX11_depthsTogether_4 rfl (lv_at hl 2 rfl) ?_
      refine lv_bipush (v := 8) hx hb dX11_depthsTogether_5 (by decide) ?_
      refine lv_icmp_ge (tgt := 39) hx hb dX11_depthsTogether_7 (by decide) (fun c7 => ?_) (fun c7 => ?_)
      · rw [if_pos c7] at hm
        refine lv_iload_n hx hb dX11_depthsTogether_39 rfl (lv_at hl 1 rfl) ?_
        have hm := Option.some.inj hm
        subst hm
        exact k_iret (v := v4_1) X rfl dX11_depthsTogether_40 hP hD hS
      · rw [if_neg c7] at hm
        refine lv_iload_n hx hb dX11_depthsTogether_10 rfl (lv_at hl 1 rfl) ?_
        refine lv_aload_n hx hb dX11_depthsTogether_11 rfl (lv_at hl 0 rfl) ?_
        refine va_get (D := G) (ci := 8) (v := .int k_t_reached) (C := RX11) (T := TX11) (N := 22) hx hb hts i_X11 hown hK hP 0 rfl rfl 6 (by decide) l_110 (fun _ h9 => h9) rfl dX11_depthsTogether_12 ?_
        refine lv_iload_n hx hb dX11_depthsTogether_15 rfl (lv_at hl 2 rfl) ?_
        refine kcS0 (st1 := [.int (bI (mX11_has k_t_reached v4_2)), .int v4_1]) X hA (c_X11_has l G cI cZ cE k_t_reached v4_2 _ rfl) (va_cwS 2 hts gX11_depthsTogether_X11_has rfl rfl rfl hd_X11_has ⟨Nat.le_of_ble_eq_true rfl, Nat.le_of_ble_eq_true rfl⟩) hl.1 dX11_depthsTogether_16 hP hD hS [] rfl rfl rfl [.int v4_1] rfl (Nat.le_of_ble_eq_true rfl) rfl ⟨Nat.zero_le _, Nat.zero_le _⟩ (fun H locs hP hD hS => ?_)
        refine lv_if_eq (tgt := 30) hx hb dX11_depthsTogether_19 (by decide) (fun c19 => ?_) (fun c19 => ?_)
        · have c19 := kb0 c19
          rw [if_neg c19] at hm
          refine lv_iconst (v := 0) hx hb dX11_depthsTogether_30 (by decide) ?_
          refine lv_iadd hx hb dX11_depthsTogether_31 ?_
          refine lv_istore_n (lv' := [(1, .int (v4_1 + 0)), (0, .ref a_t), (2, .int v4_2)]) hx hb dX11_depthsTogether_32 rfl hl (by decide) rfl (fun ls hl => ?_)
          refine lv_iinc (v := v4_2 + 1) (lv' := [(2, .int (v4_2 + 1)), (1, .int (v4_1 + 0)), (0, .ref a_t)]) hx hb dX11_depthsTogether_33 hl (k := 2) rfl rfl (by decide) rfl (fun ls hl => ?_)
          refine lv_goto (tgt := 4) hx hb dX11_depthsTogether_36 (by decide) ?_
          exact ih4 (v4_1 + 0) (v4_2 + 1) _ _ _ hP hD hS (lv_sub hl [2, 1, 0] rfl) hm
        · have c19 := kb1 c19
          rw [if_pos c19] at hm
          refine lv_aload_n hx hb dX11_depthsTogether_22 rfl (lv_at hl 0 rfl) ?_
          refine lv_iload_n hx hb dX11_depthsTogether_23 rfl (lv_at hl 2 rfl) ?_
          obtain ⟨r24, hc24, hm⟩ := kbind hm
          refine kcV0 (st1 := [.int r24, .int v4_1]) X hA (c_X11_depthOf l G cI cZ cE a_t a_t_now a_t_text a_t_covers a_t_order a_t_way a_t_tried a_t_row a_t_lids a_t_shown a_t_seenKnot a_t_seenLid a_t_seenHad a_t_isKept a_t_kept k_t_knots k_t_readKnots k_t_length k_t_reached k_t_acts k_t_next k_t_seen k_t_seed f_t_covers v4_2 r24 hc24) (cwV 1 hts gX11_depthsTogether_X11_depthOf rfl rfl rfl hd_X11_depthOf ⟨Nat.le_of_ble_eq_true rfl, Nat.le_of_ble_eq_true rfl⟩) 0 8 rfl rfl hl.1 dX11_depthsTogether_24 hP hD hS [0, 1] rfl rfl rfl [.int v4_1] rfl (Nat.le_of_ble_eq_true rfl) rfl ⟨Nat.zero_le _, Nat.zero_le _⟩ (fun H locs hP hD hS => ?_)
          refine lv_goto (tgt := 31) hx hb dX11_depthsTogether_27 (by decide) ?_
          refine lv_iadd hx hb dX11_depthsTogether_31 ?_
          refine lv_istore_n (lv' := [(1, .int (v4_1 + r24)), (0, .ref a_t), (2, .int v4_2)]) hx hb dX11_depthsTogether_32 rfl hl (by decide) rfl (fun ls hl => ?_)
          refine lv_iinc (v := v4_2 + 1) (lv' := [(2, .int (v4_2 + 1)), (1, .int (v4_1 + r24)), (0, .ref a_t)]) hx hb dX11_depthsTogether_33 hl (k := 2) rfl rfl (by decide) rfl (fun ls hl => ?_)
          refine lv_goto (tgt := 4) hx hb dX11_depthsTogether_36 (by decide) ?_
          exact ih4 (v4_1 + r24) (v4_2 + 1) _ _ _ hP hD hS (lv_sub hl [2, 1, 0] rfl) hm
  exact h4 kFU 0 0 _ _ _ hP hD hS (lv_sub hl [2, 1, 0] rfl) hm
theorem hd_X11_depthsTogether : yX11_depthsTogether.cls = RX11 ∧ yX11_depthsTogether.cls ≠ "java/lang/invoke/MethodHandle" ∧ yX11_depthsTogether.cls ≠ "java/lang/invoke/VarHandle" ∧ (parseMethodDescriptor yX11_depthsTogether.desc).map (fun d => d.parameters.length) = some 0 := by decide +kernel
/-! CoverOrderModel drawn -/
set_option maxRecDepth 100000 in
set_option maxHeartbeats 4000000 in
theorem c_X11_drawn (l : Launch) (G : va_G) (cI cZ cE : ClassId) (a_t a_t_now a_t_text a_t_covers a_t_order a_t_way a_t_tried a_t_row a_t_lids a_t_shown a_t_seenKnot a_t_seenLid a_t_seenHad a_t_isKept a_t_kept : Nat) (k_t_knots : Int32) (k_t_readKnots : Int32) (k_t_length : Int32) (k_t_reached : Int32) (k_t_acts : Int32) (k_t_next : Int32) (k_t_seen : Int32) (k_t_seed : Int64) (f_t_now : Nat → Int32) (f_t_covers : Nat → Int32) (f_t_order : Nat → Int32) (f_t_way : Nat → Int32) (f_t_tried : Nat → Int32) (p1 : Int32) (R : Int32 × Int32 × Int64 × (Nat → Int32) × (Nat → Int32) × (Nat → Int32) × (Nat → Int32) × (Nat → Int32)) (hm : mX11_drawn k_t_knots k_t_reached k_t_seed f_t_now f_t_covers f_t_order f_t_way f_t_tried p1 = some R) : kM l yX11_drawn wsX11_drawn { frames := 4, cells := 0, slots := 0, locals := 102 } G cI cZ cE [.ref a_t, .int p1] [(a_t, .inr (8, [.int k_t_knots, .ref a_t_now, .int k_t_readKnots, .ref a_t_text, .int k_t_length, .ref a_t_covers, .int k_t_reached, .ref a_t_order, .ref a_t_way, .ref a_t_tried, .int k_t_acts, .int k_t_next, .ref a_t_row, .ref a_t_lids, .ref a_t_shown, .int k_t_seen, .ref a_t_seenKnot, .ref a_t_seenLid, .ref a_t_seenHad, .long k_t_seed, .ref a_t_isKept, .ref a_t_kept])), (a_t_now, .inl (cI, 100, .inl f_t_now)), (a_t_covers, .inl (cI, 8, .inl f_t_covers)), (a_t_order, .inl (cI, 8, .inl f_t_order)), (a_t_way, .inl (cI, 8, .inl f_t_way)), (a_t_tried, .inl (cI, 8, .inl f_t_tried))] [(a_t, .inr (8, [.int k_t_knots, .ref a_t_now, .int k_t_readKnots, .ref a_t_text, .int k_t_length, .ref a_t_covers, .int R.2.1, .ref a_t_order, .ref a_t_way, .ref a_t_tried, .int k_t_acts, .int k_t_next, .ref a_t_row, .ref a_t_lids, .ref a_t_shown, .int k_t_seen, .ref a_t_seenKnot, .ref a_t_seenLid, .ref a_t_seenHad, .long R.2.2.1, .ref a_t_isKept, .ref a_t_kept])), (a_t_now, .inl (cI, 100, .inl R.2.2.2.1)), (a_t_covers, .inl (cI, 8, .inl R.2.2.2.2.1)), (a_t_order, .inl (cI, 8, .inl R.2.2.2.2.2.1)), (a_t_way, .inl (cI, 8, .inl R.2.2.2.2.2.2.1)), (a_t_tried, .inl (cI, 8, .inl R.2.2.2.2.2.2.2))] (some (.int R.1)) := by
  refine kM_of cX11_drawn 7 (some .int) RX11 (by decide) rfl rfl (Nat.le_of_ble_eq_true rfl) ?_
  intro p e s m below meth c A ls X hA hP hD hS hl
  have hx := X.1.1
  have hb := X.1.2.1
  have hts := X.1.2.2.2.2
  have hown := X.1.2.2.2.1
  have hK := X.2.2.2.1
  have k_198 : (.constantLong RX11 198 (20) : Cond).before _ s = true := hts _ (List.mem_of_getElem? (i := 1) (by decide +kernel))
  have l_194 : (.fieldLink RX11 194 "CoverOrderModel" "seed" "J" : Cond).before _ s = true := hts _ (List.mem_of_getElem? (i := 2) (by decide +kernel))
  have i_X11 : ∀ w ∈ u_ws RX11 TX11 22, w ∈ wsX11_drawn := k_in _ [90, 91, 92, 93, 94, 95, 96, 97, 98, 99, 100, 101, 102, 103, 104, 105, 106, 107, 108, 109, 110, 111] (by decide +kernel)
  have k_200 : (.constantLong RX11 200 (6364136223846793005) : Cond).before _ s = true := hts _ (List.mem_of_getElem? (i := 3) (by decide +kernel))
  have k_202 : (.constantLong RX11 202 (1442695040888963407) : Cond).before _ s = true := hts _ (List.mem_of_getElem? (i := 4) (by decide +kernel))
  have l_7 : (.fieldLink RX11 7 "CoverOrderModel" "knots" "I" : Cond).before _ s = true := hts _ (List.mem_of_getElem? (i := 5) (by decide +kernel))
  have hl : lv_has ls 7 [(0, .ref a_t), (1, .int p1)] := hl
  rw [mX11_drawn] at hm
  refine lv_iload_n hx hb dX11_drawn_0 rfl (lv_at hl 1 rfl) ?_
  refine lv_i2l (v := (p1 : Int32).toInt64) hx hb dX11_drawn_1 rfl ?_
  refine lv_lconst (v := 1) hx hb dX11_drawn_2 (by decide) ?_
  refine lv_ldc2 (v := 20) hx hb hown k_198 dX11_drawn_3 ?_
  refine kcS0 (st1 := [.int (bI (mX11_in ((p1 : Int32).toInt64) 1 20))]) X hA (c_X11_in l G cI cZ cE ((p1 : Int32).toInt64) 1 20 _ rfl) (va_cwS 3 hts gX11_drawn_X11_in rfl rfl rfl hd_X11_in ⟨Nat.le_of_ble_eq_true rfl, Nat.le_of_ble_eq_true rfl⟩) hl.1 dX11_drawn_6 hP hD hS [] rfl rfl rfl [] rfl (Nat.le_of_ble_eq_true rfl) rfl ⟨Nat.zero_le _, Nat.zero_le _⟩ (fun H locs hP hD hS => ?_)
  refine lv_if_ne (tgt := 15) hx hb dX11_drawn_9 (by decide) (fun c9 => ?_) (fun c9 => ?_)
  · have c9 := kb1 c9
    rw [if_pos c9] at hm
    refine lv_aload_n hx hb dX11_drawn_15 rfl (lv_at hl 0 rfl) ?_
    obtain ⟨r16, hc16, hm⟩ := kbind hm
    refine kcV (ws1 := [(a_t, .inr (8, [.int k_t_knots, .ref a_t_now, .int k_t_readKnots, .ref a_t_text, .int k_t_length, .ref a_t_covers, .int k_t_reached, .ref a_t_order, .ref a_t_way, .ref a_t_tried, .int k_t_acts, .int k_t_next, .ref a_t_row, .ref a_t_lids, .ref a_t_shown, .int k_t_seen, .ref a_t_seenKnot, .ref a_t_seenLid, .ref a_t_seenHad, .long k_t_seed, .ref a_t_isKept, .ref a_t_kept])), (a_t_now, .inl (cI, 100, .inl r16)), (a_t_covers, .inl (cI, 8, .inl f_t_covers)), (a_t_order, .inl (cI, 8, .inl f_t_order)), (a_t_way, .inl (cI, 8, .inl f_t_way)), (a_t_tried, .inl (cI, 8, .inl f_t_tried))]) (st1 := []) X hA (c_X11_layTrial l G cI cZ cE a_t a_t_now a_t_text a_t_covers a_t_order a_t_way a_t_tried a_t_row a_t_lids a_t_shown a_t_seenKnot a_t_seenLid a_t_seenHad a_t_isKept a_t_kept k_t_knots k_t_readKnots k_t_length k_t_reached k_t_acts k_t_next k_t_seen k_t_seed f_t_now r16 hc16) (cwV 0 hts gX11_drawn_X11_layTrial rfl rfl rfl hd_X11_layTrial ⟨Nat.le_of_ble_eq_true rfl, Nat.le_of_ble_eq_true rfl⟩) 0 8 rfl rfl hl.1 dX11_drawn_16 hP hD hS [0, 1] rfl rfl rfl rfl rfl [] rfl (Nat.le_of_ble_eq_true rfl) rfl ⟨Nat.zero_le _, Nat.zero_le _⟩ (fun H locs hP hD hS => ?_)
    refine lv_iconst (v := 0) hx hb dX11_drawn_19 (by decide) ?_
    refine lv_istore_n (lv' := [(2, .int 0), (0, .ref a_t), (1, .int p1)]) hx hb dX11_drawn_20 rfl hl (by decide) rfl (fun ls hl => ?_)
    refine lv_iconst (v := 0) hx hb dX11_drawn_21 (by decide) ?_
    refine lv_istore_n (lv' := [(3, .int 0), (2, .int 0), (0, .ref a_t), (1, .int p1)]) hx hb dX11_drawn_22 rfl hl (by decide) rfl (fun ls hl => ?_)
    have h23 : ∀ (n23 : Nat), ∀ (v23_2 : Int32) (v23_3 : Int32) (w23_k_t_reached : Int32) (w23_k_t_seed : Int64) (w23_f_t_now : Nat → Int32) (w23_f_t_covers : Nat → Int32) (w23_f_t_order : Nat → Int32) (w23_f_t_way : Nat → Int32) (w23_f_t_tried : Nat → Int32) (H : Heap) (locs : List Loc) (ls : Array Slot), va_P G vwCl [(a_t, .inr (8, [.int k_t_knots, .ref a_t_now, .int k_t_readKnots, .ref a_t_text, .int k_t_length, .ref a_t_covers, .int w23_k_t_reached, .ref a_t_order, .ref a_t_way, .ref a_t_tried, .int k_t_acts, .int k_t_next, .ref a_t_row, .ref a_t_lids, .ref a_t_shown, .int k_t_seen, .ref a_t_seenKnot, .ref a_t_seenLid, .ref a_t_seenHad, .long w23_k_t_seed, .ref a_t_isKept, .ref a_t_kept])), (a_t_now, .inl (cI, 100, .inl w23_f_t_now)), (a_t_covers, .inl (cI, 8, .inl w23_f_t_covers)), (a_t_order, .inl (cI, 8, .inl w23_f_t_order)), (a_t_way, .inl (cI, 8, .inl w23_f_t_way)), (a_t_tried, .inl (cI, 8, .inl w23_f_t_tried))] H → va_D A [(a_t, .inr (8, [.int k_t_knots, .ref a_t_now, .int k_t_readKnots, .ref a_t_text, .int k_t_length, .ref a_t_covers, .int w23_k_t_reached, .ref a_t_order, .ref a_t_way, .ref a_t_tried, .int k_t_acts, .int k_t_next, .ref a_t_row, .ref a_t_lids, .ref a_t_shown, .int k_t_seen, .ref a_t_seenKnot, .ref a_t_seenLid, .ref a_t_seenHad, .long w23_k_t_seed, .ref a_t_isKept, .ref a_t_kept])), (a_t_now, .inl (cI, 100, .inl w23_f_t_now)), (a_t_covers, .inl (cI, 8, .inl w23_f_t_covers)), (a_t_order, .inl (cI, 8, .inl w23_f_t_order)), (a_t_way, .inl (cI, 8, .inl w23_f_t_way)), (a_t_tried, .inl (cI, 8, .inl w23_f_t_tried))] → va_S A s.heap H locs → lv_has ls 7 [(0, .ref a_t), (1, .int p1), (2, .int v23_2), (3, .int v23_3)] → mX11_drawn_L23 k_t_knots p1 n23 v23_2 v23_3 w23_k_t_reached w23_k_t_seed w23_f_t_now w23_f_t_covers w23_f_t_order w23_f_t_way w23_f_t_tried = some R → W p l e { frames := 4, cells := 0, slots := 0, locals := 102 } s m ([.ref a_t, .int p1] : List Value).toArray below meth c H locs 0 0 (kQ below G [(a_t, .inr (8, [.int k_t_knots, .ref a_t_now, .int k_t_readKnots, .ref a_t_text, .int k_t_length, .ref a_t_covers, .int R.2.1, .ref a_t_order, .ref a_t_way, .ref a_t_tried, .int k_t_acts, .int k_t_next, .ref a_t_row, .ref a_t_lids, .ref a_t_shown, .int k_t_seen, .ref a_t_seenKnot, .ref a_t_seenLid, .ref a_t_seenHad, .long R.2.2.1, .ref a_t_isKept, .ref a_t_kept])), (a_t_now, .inl (cI, 100, .inl R.2.2.2.1)), (a_t_covers, .inl (cI, 8, .inl R.2.2.2.2.1)), (a_t_order, .inl (cI, 8, .inl R.2.2.2.2.2.1)), (a_t_way, .inl (cI, 8, .inl R.2.2.2.2.2.2.1)), (a_t_tried, .inl (cI, 8, .inl R.2.2.2.2.2.2.2))] (some (.int R.1)) A ([.ref a_t, .int p1] : List Value).toArray s) (F0 m 23 ls []) := by
      intro n23
      induction n23 with
      | zero => intro v23_2 v23_3 w23_k_t_reached w23_k_t_seed w23_f_t_now w23_f_t_covers w23_f_t_order w23_f_t_way w23_f_t_tried H locs ls hP hD hS hl hm; rw [mX11_drawn_L23] at hm; cases hm
      | succ n23 ih23 =>
        intro v23_2 v23_3 w23_k_t_reached w23_k_t_seed w23_f_t_now w23_f_t_covers w23_f_t_order w23_f_t_way w23_f_t_tried H locs ls hP hD hS hl hm
        rw [mX11_drawn_L23] at hm
        refine lv_iload_n hx hb dX11_drawn_23 rfl (lv_at hl 3 rfl) ?_
        refine lv_iload_n hx hb dX11_drawn_24 rfl (lv_at hl 1 rfl) ?_
        refine lv_icmp_ge (tgt := 121) hx hb dX11_drawn_25 (by decide) (fun c25 => ?_) (fun c25 => ?_)
        · rw [if_pos c25] at hm
          refine lv_iload_n hx hb dX11_drawn_121 rfl (lv_at hl 2 rfl) ?_
          have hm := Option.some.inj hm
          subst hm
          exact k_iret (v := v23_2) X rfl dX11_drawn_122 hP hD hS
        · rw [if_neg c25] at hm
          refine lv_aload_n hx hb dX11_drawn_28 rfl (lv_at hl 0 rfl) ?_
          refine lv_aload_n hx hb dX11_drawn_29 rfl (lv_at hl 0 rfl) ?_
          refine va_get (D := G) (ci := 8) (v := .long w23_k_t_seed) (C := RX11) (T := TX11) (N := 22) hx hb hts i_X11 hown hK hP 0 rfl rfl 19 (by decide) l_194 (fun _ h9 => h9) rfl dX11_drawn_30 ?_
          refine lv_ldc2 (v := 6364136223846793005) hx hb hown k_200 dX11_drawn_33 ?_
          refine lv_lmul hx hb dX11_drawn_36 ?_
          refine lv_ldc2 (v := 1442695040888963407) hx hb hown k_202 dX11_drawn_37 ?_
          refine lv_ladd hx hb dX11_drawn_40 ?_
          refine va_put (D := G) (ci := 8) (v := .long ((w23_k_t_seed * 6364136223846793005) + 1442695040888963407)) (ty := .long) (C := RX11) (T := TX11) (N := 22) hx hb hts i_X11 tyX11 tyX11_ok nmX11 hown hK hP hD hS 0 rfl rfl 19 (by decide) l_194 (fun _ h9 => h9) rfl (by decide +kernel) rfl rfl (Nat.le_of_ble_eq_true rfl) dX11_drawn_41 (fun H locs hP hD hS => ?_)
          have hP : va_P G vwCl [(a_t, .inr (8, [.int k_t_knots, .ref a_t_now, .int k_t_readKnots, .ref a_t_text, .int k_t_length, .ref a_t_covers, .int w23_k_t_reached, .ref a_t_order, .ref a_t_way, .ref a_t_tried, .int k_t_acts, .int k_t_next, .ref a_t_row, .ref a_t_lids, .ref a_t_shown, .int k_t_seen, .ref a_t_seenKnot, .ref a_t_seenLid, .ref a_t_seenHad, .long ((w23_k_t_seed * 6364136223846793005) + 1442695040888963407), .ref a_t_isKept, .ref a_t_kept])), (a_t_now, .inl (cI, 100, .inl w23_f_t_now)), (a_t_covers, .inl (cI, 8, .inl w23_f_t_covers)), (a_t_order, .inl (cI, 8, .inl w23_f_t_order)), (a_t_way, .inl (cI, 8, .inl w23_f_t_way)), (a_t_tried, .inl (cI, 8, .inl w23_f_t_tried))] H := hP
          have hD : va_D A [(a_t, .inr (8, [.int k_t_knots, .ref a_t_now, .int k_t_readKnots, .ref a_t_text, .int k_t_length, .ref a_t_covers, .int w23_k_t_reached, .ref a_t_order, .ref a_t_way, .ref a_t_tried, .int k_t_acts, .int k_t_next, .ref a_t_row, .ref a_t_lids, .ref a_t_shown, .int k_t_seen, .ref a_t_seenKnot, .ref a_t_seenLid, .ref a_t_seenHad, .long ((w23_k_t_seed * 6364136223846793005) + 1442695040888963407), .ref a_t_isKept, .ref a_t_kept])), (a_t_now, .inl (cI, 100, .inl w23_f_t_now)), (a_t_covers, .inl (cI, 8, .inl w23_f_t_covers)), (a_t_order, .inl (cI, 8, .inl w23_f_t_order)), (a_t_way, .inl (cI, 8, .inl w23_f_t_way)), (a_t_tried, .inl (cI, 8, .inl w23_f_t_tried))] := hD
          refine lv_aload_n hx hb dX11_drawn_44 rfl (lv_at hl 0 rfl) ?_
          refine va_get (D := G) (ci := 8) (v := .long ((w23_k_t_seed * 6364136223846793005) + 1442695040888963407)) (C := RX11) (T := TX11) (N := 22) hx hb hts i_X11 hown hK hP 0 rfl rfl 19 (by decide) l_194 (fun _ h9 => h9) rfl dX11_drawn_45 ?_
          refine lv_bipush (v := 33) hx hb dX11_drawn_48 (by decide) ?_
          refine lv_lushr (v := ((((w23_k_t_seed * 6364136223846793005) + 1442695040888963407) : Int64).toUInt64 >>> ((33 : Int32).toInt64.toUInt64 &&& Int64.toUInt64 63)).toInt64) hx hb dX11_drawn_50 rfl ?_
          refine lv_l2i (v := (((((w23_k_t_seed * 6364136223846793005) + 1442695040888963407) : Int64).toUInt64 >>> ((33 : Int32).toInt64.toUInt64 &&& Int64.toUInt64 63)).toInt64 : Int64).toInt32) hx hb dX11_drawn_51 rfl ?_
          refine lv_istore (lv' := [(4, .int ((((((w23_k_t_seed * 6364136223846793005) + 1442695040888963407) : Int64).toUInt64 >>> ((33 : Int32).toInt64.toUInt64 &&& Int64.toUInt64 63)).toInt64 : Int64).toInt32)), (0, .ref a_t), (1, .int p1), (2, .int v23_2), (3, .int v23_3)]) hx hb dX11_drawn_52 hl (by decide) rfl (fun ls hl => ?_)
          refine lv_iload hx hb dX11_drawn_54 (lv_at hl 0 rfl) ?_
          refine lv_aload_n hx hb dX11_drawn_56 rfl (lv_at hl 1 rfl) ?_
          refine va_get (D := G) (ci := 8) (v := .int k_t_knots) (C := RX11) (T := TX11) (N := 22) hx hb hts i_X11 hown hK hP 0 rfl rfl 0 (by decide) l_7 (fun _ h9 => h9) rfl dX11_drawn_57 ?_
          obtain ⟨g60, hm⟩ := gd_some hm
          refine lv_irem hx hb dX11_drawn_60 (kne_ok g60) ?_
          refine lv_istore (lv' := [(5, .int (((((((w23_k_t_seed * 6364136223846793005) + 1442695040888963407) : Int64).toUInt64 >>> ((33 : Int32).toInt64.toUInt64 &&& Int64.toUInt64 63)).toInt64 : Int64).toInt32) - ((((((w23_k_t_seed * 6364136223846793005) + 1442695040888963407) : Int64).toUInt64 >>> ((33 : Int32).toInt64.toUInt64 &&& Int64.toUInt64 63)).toInt64 : Int64).toInt32) / k_t_knots * k_t_knots)), (4, .int ((((((w23_k_t_seed * 6364136223846793005) + 1442695040888963407) : Int64).toUInt64 >>> ((33 : Int32).toInt64.toUInt64 &&& Int64.toUInt64 63)).toInt64 : Int64).toInt32)), (0, .ref a_t), (1, .int p1), (2, .int v23_2), (3, .int v23_3)]) hx hb dX11_drawn_61 hl (by decide) rfl (fun ls hl => ?_)
          refine lv_iload hx hb dX11_drawn_63 (lv_at hl 1 rfl) ?_
          refine lv_bipush (v := 8) hx hb dX11_drawn_65 (by decide) ?_
          refine lv_idiv hx hb dX11_drawn_67 (by decide) ?_
          refine lv_aload_n hx hb dX11_drawn_68 rfl (lv_at hl 2 rfl) ?_
          refine va_get (D := G) (ci := 8) (v := .int k_t_knots) (C := RX11) (T := TX11) (N := 22) hx hb hts i_X11 hown hK hP 0 rfl rfl 0 (by decide) l_7 (fun _ h9 => h9) rfl dX11_drawn_69 ?_
          obtain ⟨g72, hm⟩ := gd_some hm
          refine lv_irem hx hb dX11_drawn_72 (kne_ok g72) ?_
          refine lv_istore (lv' := [(6, .int ((((((((w23_k_t_seed * 6364136223846793005) + 1442695040888963407) : Int64).toUInt64 >>> ((33 : Int32).toInt64.toUInt64 &&& Int64.toUInt64 63)).toInt64 : Int64).toInt32) / 8) - (((((((w23_k_t_seed * 6364136223846793005) + 1442695040888963407) : Int64).toUInt64 >>> ((33 : Int32).toInt64.toUInt64 &&& Int64.toUInt64 63)).toInt64 : Int64).toInt32) / 8) / k_t_knots * k_t_knots)), (5, .int (((((((w23_k_t_seed * 6364136223846793005) + 1442695040888963407) : Int64).toUInt64 >>> ((33 : Int32).toInt64.toUInt64 &&& Int64.toUInt64 63)).toInt64 : Int64).toInt32) - ((((((w23_k_t_seed * 6364136223846793005) + 1442695040888963407) : Int64).toUInt64 >>> ((33 : Int32).toInt64.toUInt64 &&& Int64.toUInt64 63)).toInt64 : Int64).toInt32) / k_t_knots * k_t_knots)), (4, .int ((((((w23_k_t_seed * 6364136223846793005) + 1442695040888963407) : Int64).toUInt64 >>> ((33 : Int32).toInt64.toUInt64 &&& Int64.toUInt64 63)).toInt64 : Int64).toInt32)), (0, .ref a_t), (1, .int p1), (2, .int v23_2), (3, .int v23_3)]) hx hb dX11_drawn_73 hl (by decide) rfl (fun ls hl => ?_)
          refine lv_aload_n hx hb dX11_drawn_75 rfl (lv_at hl 3 rfl) ?_
          refine lv_aload_n hx hb dX11_drawn_76 rfl (lv_at hl 3 rfl) ?_
          refine lv_iconst (v := 1) hx hb dX11_drawn_77 (by decide) ?_
          refine lv_iload hx hb dX11_drawn_78 (lv_at hl 1 rfl) ?_
          refine lv_iload hx hb dX11_drawn_80 (lv_at hl 0 rfl) ?_
          obtain ⟨r82, hc82, hm⟩ := kbind hm
          refine kcV0 (st1 := [.int r82, .ref a_t]) X hA (c_X11_find l G cI cZ cE a_t a_t_now a_t_text a_t_covers a_t_order a_t_way a_t_tried a_t_row a_t_lids a_t_shown a_t_seenKnot a_t_seenLid a_t_seenHad a_t_isKept a_t_kept k_t_knots k_t_readKnots k_t_length w23_k_t_reached k_t_acts k_t_next k_t_seen ((w23_k_t_seed * 6364136223846793005) + 1442695040888963407) w23_f_t_now 1 (((((((w23_k_t_seed * 6364136223846793005) + 1442695040888963407) : Int64).toUInt64 >>> ((33 : Int32).toInt64.toUInt64 &&& Int64.toUInt64 63)).toInt64 : Int64).toInt32) - ((((((w23_k_t_seed * 6364136223846793005) + 1442695040888963407) : Int64).toUInt64 >>> ((33 : Int32).toInt64.toUInt64 &&& Int64.toUInt64 63)).toInt64 : Int64).toInt32) / k_t_knots * k_t_knots) ((((((((w23_k_t_seed * 6364136223846793005) + 1442695040888963407) : Int64).toUInt64 >>> ((33 : Int32).toInt64.toUInt64 &&& Int64.toUInt64 63)).toInt64 : Int64).toInt32) / 8) - (((((((w23_k_t_seed * 6364136223846793005) + 1442695040888963407) : Int64).toUInt64 >>> ((33 : Int32).toInt64.toUInt64 &&& Int64.toUInt64 63)).toInt64 : Int64).toInt32) / 8) / k_t_knots * k_t_knots) r82 hc82) (cwV 3 hts gX11_drawn_X11_find rfl rfl rfl hd_X11_find ⟨Nat.le_of_ble_eq_true rfl, Nat.le_of_ble_eq_true rfl⟩) 0 8 rfl rfl hl.1 dX11_drawn_82 hP hD hS [0, 1] rfl rfl rfl [.ref a_t] rfl (Nat.le_of_ble_eq_true rfl) rfl ⟨Nat.zero_le _, Nat.zero_le _⟩ (fun H locs hP hD hS => ?_)
          refine lv_bipush (v := (-9)) hx hb dX11_drawn_85 (by decide) ?_
          have h95 : ∀ (s95_1 : Int32) (H : Heap) (locs : List Loc) (ls : Array Slot), va_P G vwCl [(a_t, .inr (8, [.int k_t_knots, .ref a_t_now, .int k_t_readKnots, .ref a_t_text, .int k_t_length, .ref a_t_covers, .int w23_k_t_reached, .ref a_t_order, .ref a_t_way, .ref a_t_tried, .int k_t_acts, .int k_t_next, .ref a_t_row, .ref a_t_lids, .ref a_t_shown, .int k_t_seen, .ref a_t_seenKnot, .ref a_t_seenLid, .ref a_t_seenHad, .long ((w23_k_t_seed * 6364136223846793005) + 1442695040888963407), .ref a_t_isKept, .ref a_t_kept])), (a_t_now, .inl (cI, 100, .inl w23_f_t_now)), (a_t_covers, .inl (cI, 8, .inl w23_f_t_covers)), (a_t_order, .inl (cI, 8, .inl w23_f_t_order)), (a_t_way, .inl (cI, 8, .inl w23_f_t_way)), (a_t_tried, .inl (cI, 8, .inl w23_f_t_tried))] H → va_D A [(a_t, .inr (8, [.int k_t_knots, .ref a_t_now, .int k_t_readKnots, .ref a_t_text, .int k_t_length, .ref a_t_covers, .int w23_k_t_reached, .ref a_t_order, .ref a_t_way, .ref a_t_tried, .int k_t_acts, .int k_t_next, .ref a_t_row, .ref a_t_lids, .ref a_t_shown, .int k_t_seen, .ref a_t_seenKnot, .ref a_t_seenLid, .ref a_t_seenHad, .long ((w23_k_t_seed * 6364136223846793005) + 1442695040888963407), .ref a_t_isKept, .ref a_t_kept])), (a_t_now, .inl (cI, 100, .inl w23_f_t_now)), (a_t_covers, .inl (cI, 8, .inl w23_f_t_covers)), (a_t_order, .inl (cI, 8, .inl w23_f_t_order)), (a_t_way, .inl (cI, 8, .inl w23_f_t_way)), (a_t_tried, .inl (cI, 8, .inl w23_f_t_tried))] → va_S A s.heap H locs → lv_has ls 7 [(0, .ref a_t), (1, .int p1), (2, .int v23_2), (3, .int v23_3), (5, .int (((((((w23_k_t_seed * 6364136223846793005) + 1442695040888963407) : Int64).toUInt64 >>> ((33 : Int32).toInt64.toUInt64 &&& Int64.toUInt64 63)).toInt64 : Int64).toInt32) - ((((((w23_k_t_seed * 6364136223846793005) + 1442695040888963407) : Int64).toUInt64 >>> ((33 : Int32).toInt64.toUInt64 &&& Int64.toUInt64 63)).toInt64 : Int64).toInt32) / k_t_knots * k_t_knots)), (6, .int ((((((((w23_k_t_seed * 6364136223846793005) + 1442695040888963407) : Int64).toUInt64 >>> ((33 : Int32).toInt64.toUInt64 &&& Int64.toUInt64 63)).toInt64 : Int64).toInt32) / 8) - (((((((w23_k_t_seed * 6364136223846793005) + 1442695040888963407) : Int64).toUInt64 >>> ((33 : Int32).toInt64.toUInt64 &&& Int64.toUInt64 63)).toInt64 : Int64).toInt32) / 8) / k_t_knots * k_t_knots))] → mX11_drawn_J95 (mX11_drawn_L23 k_t_knots p1 n23) k_t_knots v23_2 v23_3 w23_k_t_reached w23_k_t_seed w23_f_t_now w23_f_t_covers w23_f_t_order w23_f_t_way w23_f_t_tried s95_1 = some R → W p l e { frames := 4, cells := 0, slots := 0, locals := 102 } s m ([.ref a_t, .int p1] : List Value).toArray below meth c H locs 0 0 (kQ below G [(a_t, .inr (8, [.int k_t_knots, .ref a_t_now, .int k_t_readKnots, .ref a_t_text, .int k_t_length, .ref a_t_covers, .int R.2.1, .ref a_t_order, .ref a_t_way, .ref a_t_tried, .int k_t_acts, .int k_t_next, .ref a_t_row, .ref a_t_lids, .ref a_t_shown, .int k_t_seen, .ref a_t_seenKnot, .ref a_t_seenLid, .ref a_t_seenHad, .long R.2.2.1, .ref a_t_isKept, .ref a_t_kept])), (a_t_now, .inl (cI, 100, .inl R.2.2.2.1)), (a_t_covers, .inl (cI, 8, .inl R.2.2.2.2.1)), (a_t_order, .inl (cI, 8, .inl R.2.2.2.2.2.1)), (a_t_way, .inl (cI, 8, .inl R.2.2.2.2.2.2.1)), (a_t_tried, .inl (cI, 8, .inl R.2.2.2.2.2.2.2))] (some (.int R.1)) A ([.ref a_t, .int p1] : List Value).toArray s) (F0 m 95 ls [.int s95_1, .ref a_t]) := by
            intro s95_1 H locs ls hP hD hS hl hm
            rw [mX11_drawn_J95] at hm
            refine lv_iload hx hb dX11_drawn_95 (lv_at hl 4 rfl) ?_
            refine lv_iload hx hb dX11_drawn_97 (lv_at hl 5 rfl) ?_
            obtain ⟨r99, hc99, hm⟩ := kbind hm
            refine kcV (ws1 := [(a_t, .inr (8, [.int k_t_knots, .ref a_t_now, .int k_t_readKnots, .ref a_t_text, .int k_t_length, .ref a_t_covers, .int r99.2.1, .ref a_t_order, .ref a_t_way, .ref a_t_tried, .int k_t_acts, .int k_t_next, .ref a_t_row, .ref a_t_lids, .ref a_t_shown, .int k_t_seen, .ref a_t_seenKnot, .ref a_t_seenLid, .ref a_t_seenHad, .long ((w23_k_t_seed * 6364136223846793005) + 1442695040888963407), .ref a_t_isKept, .ref a_t_kept])), (a_t_now, .inl (cI, 100, .inl r99.2.2.1)), (a_t_covers, .inl (cI, 8, .inl r99.2.2.2.1)), (a_t_order, .inl (cI, 8, .inl r99.2.2.2.2.1)), (a_t_way, .inl (cI, 8, .inl r99.2.2.2.2.2.1)), (a_t_tried, .inl (cI, 8, .inl r99.2.2.2.2.2.2))]) (st1 := [.int (bI r99.1)]) X hA (c_X11_tryThing l G cI cZ cE a_t a_t_now a_t_text a_t_covers a_t_order a_t_way a_t_tried a_t_row a_t_lids a_t_shown a_t_seenKnot a_t_seenLid a_t_seenHad a_t_isKept a_t_kept k_t_knots k_t_readKnots k_t_length w23_k_t_reached k_t_acts k_t_next k_t_seen ((w23_k_t_seed * 6364136223846793005) + 1442695040888963407) w23_f_t_now w23_f_t_covers w23_f_t_order w23_f_t_way w23_f_t_tried s95_1 (((((((w23_k_t_seed * 6364136223846793005) + 1442695040888963407) : Int64).toUInt64 >>> ((33 : Int32).toInt64.toUInt64 &&& Int64.toUInt64 63)).toInt64 : Int64).toInt32) - ((((((w23_k_t_seed * 6364136223846793005) + 1442695040888963407) : Int64).toUInt64 >>> ((33 : Int32).toInt64.toUInt64 &&& Int64.toUInt64 63)).toInt64 : Int64).toInt32) / k_t_knots * k_t_knots) ((((((((w23_k_t_seed * 6364136223846793005) + 1442695040888963407) : Int64).toUInt64 >>> ((33 : Int32).toInt64.toUInt64 &&& Int64.toUInt64 63)).toInt64 : Int64).toInt32) / 8) - (((((((w23_k_t_seed * 6364136223846793005) + 1442695040888963407) : Int64).toUInt64 >>> ((33 : Int32).toInt64.toUInt64 &&& Int64.toUInt64 63)).toInt64 : Int64).toInt32) / 8) / k_t_knots * k_t_knots) r99 hc99) (cwV 3 hts gX11_drawn_X11_tryThing rfl rfl rfl hd_X11_tryThing ⟨Nat.le_of_ble_eq_true rfl, Nat.le_of_ble_eq_true rfl⟩) 0 8 rfl rfl hl.1 dX11_drawn_99 hP hD hS [0, 1, 2, 3, 4, 5] rfl rfl rfl rfl rfl [] rfl (Nat.le_of_ble_eq_true rfl) rfl ⟨Nat.zero_le _, Nat.zero_le _⟩ (fun H locs hP hD hS => ?_)
            refine lv_pop hx hb dX11_drawn_102 rfl ?_
            refine lv_aload_n hx hb dX11_drawn_103 rfl (lv_at hl 0 rfl) ?_
            refine lv_iconst (v := 1) hx hb dX11_drawn_104 (by decide) ?_
            obtain ⟨r105, hc105, hm⟩ := kbind hm
            refine kcV (ws1 := [(a_t, .inr (8, [.int k_t_knots, .ref a_t_now, .int k_t_readKnots, .ref a_t_text, .int k_t_length, .ref a_t_covers, .int r105.1, .ref a_t_order, .ref a_t_way, .ref a_t_tried, .int k_t_acts, .int k_t_next, .ref a_t_row, .ref a_t_lids, .ref a_t_shown, .int k_t_seen, .ref a_t_seenKnot, .ref a_t_seenLid, .ref a_t_seenHad, .long ((w23_k_t_seed * 6364136223846793005) + 1442695040888963407), .ref a_t_isKept, .ref a_t_kept])), (a_t_now, .inl (cI, 100, .inl r99.2.2.1)), (a_t_covers, .inl (cI, 8, .inl r105.2)), (a_t_order, .inl (cI, 8, .inl r99.2.2.2.2.1)), (a_t_way, .inl (cI, 8, .inl r99.2.2.2.2.2.1)), (a_t_tried, .inl (cI, 8, .inl r99.2.2.2.2.2.2))]) (st1 := []) X hA (c_X11_findCovers l G cI cZ cE a_t a_t_now a_t_text a_t_covers a_t_order a_t_way a_t_tried a_t_row a_t_lids a_t_shown a_t_seenKnot a_t_seenLid a_t_seenHad a_t_isKept a_t_kept k_t_knots k_t_readKnots k_t_length r99.2.1 k_t_acts k_t_next k_t_seen ((w23_k_t_seed * 6364136223846793005) + 1442695040888963407) r99.2.2.1 r99.2.2.2.1 1 r105 hc105) (cwV 1 hts gX11_drawn_X11_findCovers rfl rfl rfl hd_X11_findCovers ⟨Nat.le_of_ble_eq_true rfl, Nat.le_of_ble_eq_true rfl⟩) 0 8 rfl rfl hl.1 dX11_drawn_105 hP hD hS [0, 1, 2] rfl rfl rfl rfl rfl [] rfl (Nat.le_of_ble_eq_true rfl) rfl ⟨Nat.zero_le _, Nat.zero_le _⟩ (fun H locs hP hD hS => ?_)
            refine lv_iload_n hx hb dX11_drawn_108 rfl (lv_at hl 2 rfl) ?_
            refine lv_aload_n hx hb dX11_drawn_109 rfl (lv_at hl 0 rfl) ?_
            obtain ⟨r110, hc110, hm⟩ := kbind hm
            refine kcV0 (st1 := [.int r110, .int v23_2]) X hA (c_X11_depthsTogether l G cI cZ cE a_t a_t_now a_t_text a_t_covers a_t_order a_t_way a_t_tried a_t_row a_t_lids a_t_shown a_t_seenKnot a_t_seenLid a_t_seenHad a_t_isKept a_t_kept k_t_knots k_t_readKnots k_t_length r105.1 k_t_acts k_t_next k_t_seen ((w23_k_t_seed * 6364136223846793005) + 1442695040888963407) r105.2 r110 hc110) (cwV 0 hts gX11_drawn_X11_depthsTogether rfl rfl rfl hd_X11_depthsTogether ⟨Nat.le_of_ble_eq_true rfl, Nat.le_of_ble_eq_true rfl⟩) 0 8 rfl rfl hl.1 dX11_drawn_110 hP hD hS [0, 2] rfl rfl rfl [.int v23_2] rfl (Nat.le_of_ble_eq_true rfl) rfl ⟨Nat.zero_le _, Nat.zero_le _⟩ (fun H locs hP hD hS => ?_)
            refine lv_iadd hx hb dX11_drawn_113 ?_
            refine lv_istore_n (lv' := [(2, .int (v23_2 + r110)), (0, .ref a_t), (1, .int p1), (3, .int v23_3), (5, .int (((((((w23_k_t_seed * 6364136223846793005) + 1442695040888963407) : Int64).toUInt64 >>> ((33 : Int32).toInt64.toUInt64 &&& Int64.toUInt64 63)).toInt64 : Int64).toInt32) - ((((((w23_k_t_seed * 6364136223846793005) + 1442695040888963407) : Int64).toUInt64 >>> ((33 : Int32).toInt64.toUInt64 &&& Int64.toUInt64 63)).toInt64 : Int64).toInt32) / k_t_knots * k_t_knots)), (6, .int ((((((((w23_k_t_seed * 6364136223846793005) + 1442695040888963407) : Int64).toUInt64 >>> ((33 : Int32).toInt64.toUInt64 &&& Int64.toUInt64 63)).toInt64 : Int64).toInt32) / 8) - (((((((w23_k_t_seed * 6364136223846793005) + 1442695040888963407) : Int64).toUInt64 >>> ((33 : Int32).toInt64.toUInt64 &&& Int64.toUInt64 63)).toInt64 : Int64).toInt32) / 8) / k_t_knots * k_t_knots))]) hx hb dX11_drawn_114 rfl hl (by decide) rfl (fun ls hl => ?_)
            refine lv_iinc (v := v23_3 + 1) (lv' := [(3, .int (v23_3 + 1)), (2, .int (v23_2 + r110)), (0, .ref a_t), (1, .int p1), (5, .int (((((((w23_k_t_seed * 6364136223846793005) + 1442695040888963407) : Int64).toUInt64 >>> ((33 : Int32).toInt64.toUInt64 &&& Int64.toUInt64 63)).toInt64 : Int64).toInt32) - ((((((w23_k_t_seed * 6364136223846793005) + 1442695040888963407) : Int64).toUInt64 >>> ((33 : Int32).toInt64.toUInt64 &&& Int64.toUInt64 63)).toInt64 : Int64).toInt32) / k_t_knots * k_t_knots)), (6, .int ((((((((w23_k_t_seed * 6364136223846793005) + 1442695040888963407) : Int64).toUInt64 >>> ((33 : Int32).toInt64.toUInt64 &&& Int64.toUInt64 63)).toInt64 : Int64).toInt32) / 8) - (((((((w23_k_t_seed * 6364136223846793005) + 1442695040888963407) : Int64).toUInt64 >>> ((33 : Int32).toInt64.toUInt64 &&& Int64.toUInt64 63)).toInt64 : Int64).toInt32) / 8) / k_t_knots * k_t_knots))]) hx hb dX11_drawn_115 hl (k := 3) rfl rfl (by decide) rfl (fun ls hl => ?_)
            refine lv_goto (tgt := 23) hx hb dX11_drawn_118 (by decide) ?_
            exact ih23 (v23_2 + r110) (v23_3 + 1) r105.1 ((w23_k_t_seed * 6364136223846793005) + 1442695040888963407) r99.2.2.1 r105.2 r99.2.2.2.2.1 r99.2.2.2.2.2.1 r99.2.2.2.2.2.2 _ _ _ hP hD hS (lv_sub hl [2, 3, 1, 0] rfl) hm
          refine lv_icmp_ne (tgt := 94) hx hb dX11_drawn_87 (by decide) (fun c87 => ?_) (fun c87 => ?_)
          · rw [if_neg c87] at hm
            refine lv_iconst (v := 2) hx hb dX11_drawn_94 (by decide) ?_
            exact h95 2 _ _ _ hP hD hS (lv_sub hl [3, 4, 5, 6, 1, 0] rfl) hm
          · rw [if_pos c87] at hm
            refine lv_iconst (v := 1) hx hb dX11_drawn_90 (by decide) ?_
            refine lv_goto (tgt := 95) hx hb dX11_drawn_91 (by decide) ?_
            exact h95 1 _ _ _ hP hD hS (lv_sub hl [3, 4, 5, 6, 1, 0] rfl) hm
    exact h23 kFU 0 0 k_t_reached k_t_seed r16 f_t_covers f_t_order f_t_way f_t_tried _ _ _ hP hD hS (lv_sub hl [2, 3, 1, 0] rfl) hm
  · have c9 := kb0 c9
    rw [if_neg c9] at hm
    refine lv_bipush (v := (-2)) hx hb dX11_drawn_12 (by decide) ?_
    have hm := Option.some.inj hm
    subst hm
    exact k_iret (v := (-2)) X rfl dX11_drawn_14 hP hD hS
theorem hd_X11_drawn : yX11_drawn.cls = RX11 ∧ yX11_drawn.cls ≠ "java/lang/invoke/MethodHandle" ∧ yX11_drawn.cls ≠ "java/lang/invoke/VarHandle" ∧ (parseMethodDescriptor yX11_drawn.desc).map (fun d => d.parameters.length) = some 1 := by decide +kernel
/-! CoverOrderModel keep -/
set_option maxRecDepth 100000 in
set_option maxHeartbeats 4000000 in
theorem c_X11_keep (l : Launch) (G : va_G) (cI cZ cE : ClassId) (a_t a_t_now a_t_text a_t_covers a_t_order a_t_way a_t_tried a_t_row a_t_lids a_t_shown a_t_seenKnot a_t_seenLid a_t_seenHad a_t_isKept a_t_kept : Nat) (k_t_knots : Int32) (k_t_readKnots : Int32) (k_t_length : Int32) (k_t_reached : Int32) (k_t_acts : Int32) (k_t_next : Int32) (k_t_seen : Int32) (k_t_seed : Int64) (f_t_now : Nat → Int32) (f_t_isKept : Nat → Int32) (f_t_kept : Nat → Int32) (p1 : Int32) (R : Int32 × (Nat → Int32) × (Nat → Int32)) (hm : mX11_keep f_t_now f_t_isKept f_t_kept p1 = some R) : kM l yX11_keep wsX11_keep { frames := 1, cells := 0, slots := 0, locals := 25 } G cI cZ cE [.ref a_t, .int p1] [(a_t, .inr (8, [.int k_t_knots, .ref a_t_now, .int k_t_readKnots, .ref a_t_text, .int k_t_length, .ref a_t_covers, .int k_t_reached, .ref a_t_order, .ref a_t_way, .ref a_t_tried, .int k_t_acts, .int k_t_next, .ref a_t_row, .ref a_t_lids, .ref a_t_shown, .int k_t_seen, .ref a_t_seenKnot, .ref a_t_seenLid, .ref a_t_seenHad, .long k_t_seed, .ref a_t_isKept, .ref a_t_kept])), (a_t_now, .inl (cI, 100, .inl f_t_now)), (a_t_isKept, .inl (cZ, 2, .inl f_t_isKept)), (a_t_kept, .inl (cI, 100, .inl f_t_kept))] [(a_t, .inr (8, [.int k_t_knots, .ref a_t_now, .int k_t_readKnots, .ref a_t_text, .int k_t_length, .ref a_t_covers, .int k_t_reached, .ref a_t_order, .ref a_t_way, .ref a_t_tried, .int k_t_acts, .int k_t_next, .ref a_t_row, .ref a_t_lids, .ref a_t_shown, .int k_t_seen, .ref a_t_seenKnot, .ref a_t_seenLid, .ref a_t_seenHad, .long k_t_seed, .ref a_t_isKept, .ref a_t_kept])), (a_t_now, .inl (cI, 100, .inl f_t_now)), (a_t_isKept, .inl (cZ, 2, .inl R.2.1)), (a_t_kept, .inl (cI, 100, .inl R.2.2))] (some (.int R.1)) := by
  refine kM_of cX11_keep 3 (some .int) RX11 (by decide) rfl rfl (Nat.le_of_ble_eq_true rfl) ?_
  intro p e s m below meth c A ls X hA hP hD hS hl
  have hx := X.1.1
  have hb := X.1.2.1
  have hts := X.1.2.2.2.2
  have hown := X.1.2.2.2.1
  have hK := X.2.2.2.1
  have l_50 : (.fieldLink RX11 50 "CoverOrderModel" "isKept" "[Z" : Cond).before _ s = true := hts _ (List.mem_of_getElem? (i := 1) (by decide +kernel))
  have i_X11 : ∀ w ∈ u_ws RX11 TX11 22, w ∈ wsX11_keep := k_in _ [12, 13, 14, 15, 16, 17, 18, 19, 20, 21, 22, 23, 24, 25, 26, 27, 28, 29, 30, 31, 32, 33] (by decide +kernel)
  have l_54 : (.fieldLink RX11 54 "CoverOrderModel" "kept" "[I" : Cond).before _ s = true := hts _ (List.mem_of_getElem? (i := 2) (by decide +kernel))
  have l_13 : (.fieldLink RX11 13 "CoverOrderModel" "now" "[I" : Cond).before _ s = true := hts _ (List.mem_of_getElem? (i := 3) (by decide +kernel))
  have hl : lv_has ls 3 [(0, .ref a_t), (1, .int p1)] := hl
  rw [mX11_keep] at hm
  refine lv_iload_n hx hb dX11_keep_0 rfl (lv_at hl 1 rfl) ?_
  refine lv_i2l (v := (p1 : Int32).toInt64) hx hb dX11_keep_1 rfl ?_
  refine lv_lconst (v := 0) hx hb dX11_keep_2 (by decide) ?_
  refine lv_lconst (v := 1) hx hb dX11_keep_3 (by decide) ?_
  refine kcS0 (st1 := [.int (bI (mX11_in ((p1 : Int32).toInt64) 0 1))]) X hA (c_X11_in l G cI cZ cE ((p1 : Int32).toInt64) 0 1 _ rfl) (va_cwS 3 hts gX11_keep_X11_in rfl rfl rfl hd_X11_in ⟨Nat.le_of_ble_eq_true rfl, Nat.le_of_ble_eq_true rfl⟩) hl.1 dX11_keep_4 hP hD hS [] rfl rfl rfl [] rfl (Nat.le_of_ble_eq_true rfl) rfl ⟨Nat.zero_le _, Nat.zero_le _⟩ (fun H locs hP hD hS => ?_)
  refine lv_if_ne (tgt := 12) hx hb dX11_keep_7 (by decide) (fun c7 => ?_) (fun c7 => ?_)
  · have c7 := kb1 c7
    rw [if_pos c7] at hm
    refine lv_aload_n hx hb dX11_keep_12 rfl (lv_at hl 0 rfl) ?_
    refine va_get (D := G) (ci := 8) (v := .ref a_t_isKept) (C := RX11) (T := TX11) (N := 22) hx hb hts i_X11 hown hK hP 0 rfl rfl 20 (by decide) l_50 (fun _ h9 => h9) rfl dX11_keep_13 ?_
    refine lv_iload_n hx hb dX11_keep_16 rfl (lv_at hl 1 rfl) ?_
    refine lv_iconst (v := 1) hx hb dX11_keep_17 (by decide) ?_
    obtain ⟨g18, hm⟩ := gd_some hm
    refine va_zast hx hb hK hP hD hS 2 1 rfl rfl (kin_ok g18) dX11_keep_18 (fun H locs hP hD hS => ?_)
    have hP : va_P G vwCl [(a_t, .inr (8, [.int k_t_knots, .ref a_t_now, .int k_t_readKnots, .ref a_t_text, .int k_t_length, .ref a_t_covers, .int k_t_reached, .ref a_t_order, .ref a_t_way, .ref a_t_tried, .int k_t_acts, .int k_t_next, .ref a_t_row, .ref a_t_lids, .ref a_t_shown, .int k_t_seen, .ref a_t_seenKnot, .ref a_t_seenLid, .ref a_t_seenHad, .long k_t_seed, .ref a_t_isKept, .ref a_t_kept])), (a_t_now, .inl (cI, 100, .inl f_t_now)), (a_t_isKept, .inl (cZ, 2, .inl (upd f_t_isKept (Int32.toNatClampNeg p1) (vp_nar .boolean 1)))), (a_t_kept, .inl (cI, 100, .inl f_t_kept))] H := hP
    have hD : va_D A [(a_t, .inr (8, [.int k_t_knots, .ref a_t_now, .int k_t_readKnots, .ref a_t_text, .int k_t_length, .ref a_t_covers, .int k_t_reached, .ref a_t_order, .ref a_t_way, .ref a_t_tried, .int k_t_acts, .int k_t_next, .ref a_t_row, .ref a_t_lids, .ref a_t_shown, .int k_t_seen, .ref a_t_seenKnot, .ref a_t_seenLid, .ref a_t_seenHad, .long k_t_seed, .ref a_t_isKept, .ref a_t_kept])), (a_t_now, .inl (cI, 100, .inl f_t_now)), (a_t_isKept, .inl (cZ, 2, .inl (upd f_t_isKept (Int32.toNatClampNeg p1) (vp_nar .boolean 1)))), (a_t_kept, .inl (cI, 100, .inl f_t_kept))] := hD
    refine lv_iconst (v := 0) hx hb dX11_keep_19 (by decide) ?_
    refine lv_istore_n (lv' := [(2, .int 0), (0, .ref a_t), (1, .int p1)]) hx hb dX11_keep_20 rfl hl (by decide) rfl (fun ls hl => ?_)
    have h21 : ∀ (n21 : Nat), ∀ (v21_2 : Int32) (w21_f_t_kept : Nat → Int32) (H : Heap) (locs : List Loc) (ls : Array Slot), va_P G vwCl [(a_t, .inr (8, [.int k_t_knots, .ref a_t_now, .int k_t_readKnots, .ref a_t_text, .int k_t_length, .ref a_t_covers, .int k_t_reached, .ref a_t_order, .ref a_t_way, .ref a_t_tried, .int k_t_acts, .int k_t_next, .ref a_t_row, .ref a_t_lids, .ref a_t_shown, .int k_t_seen, .ref a_t_seenKnot, .ref a_t_seenLid, .ref a_t_seenHad, .long k_t_seed, .ref a_t_isKept, .ref a_t_kept])), (a_t_now, .inl (cI, 100, .inl f_t_now)), (a_t_isKept, .inl (cZ, 2, .inl (upd f_t_isKept (Int32.toNatClampNeg p1) (vp_nar .boolean 1)))), (a_t_kept, .inl (cI, 100, .inl w21_f_t_kept))] H → va_D A [(a_t, .inr (8, [.int k_t_knots, .ref a_t_now, .int k_t_readKnots, .ref a_t_text, .int k_t_length, .ref a_t_covers, .int k_t_reached, .ref a_t_order, .ref a_t_way, .ref a_t_tried, .int k_t_acts, .int k_t_next, .ref a_t_row, .ref a_t_lids, .ref a_t_shown, .int k_t_seen, .ref a_t_seenKnot, .ref a_t_seenLid, .ref a_t_seenHad, .long k_t_seed, .ref a_t_isKept, .ref a_t_kept])), (a_t_now, .inl (cI, 100, .inl f_t_now)), (a_t_isKept, .inl (cZ, 2, .inl (upd f_t_isKept (Int32.toNatClampNeg p1) (vp_nar .boolean 1)))), (a_t_kept, .inl (cI, 100, .inl w21_f_t_kept))] → va_S A s.heap H locs → lv_has ls 3 [(0, .ref a_t), (1, .int p1), (2, .int v21_2)] → mX11_keep_L21 f_t_now f_t_isKept p1 n21 v21_2 w21_f_t_kept = some R → W p l e { frames := 1, cells := 0, slots := 0, locals := 25 } s m ([.ref a_t, .int p1] : List Value).toArray below meth c H locs 0 0 (kQ below G [(a_t, .inr (8, [.int k_t_knots, .ref a_t_now, .int k_t_readKnots, .ref a_t_text, .int k_t_length, .ref a_t_covers, .int k_t_reached, .ref a_t_order, .ref a_t_way, .ref a_t_tried, .int k_t_acts, .int k_t_next, .ref a_t_row, .ref a_t_lids, .ref a_t_shown, .int k_t_seen, .ref a_t_seenKnot, .ref a_t_seenLid, .ref a_t_seenHad, .long k_t_seed, .ref a_t_isKept, .ref a_t_kept])), (a_t_now, .inl (cI, 100, .inl f_t_now)), (a_t_isKept, .inl (cZ, 2, .inl R.2.1)), (a_t_kept, .inl (cI, 100, .inl R.2.2))] (some (.int R.1)) A ([.ref a_t, .int p1] : List Value).toArray s) (F0 m 21 ls []) := by
      intro n21
      induction n21 with
      | zero => intro v21_2 w21_f_t_kept H locs ls hP hD hS hl hm; rw [mX11_keep_L21] at hm; cases hm
      | succ n21 ih21 =>
        intro v21_2 w21_f_t_kept H locs ls hP hD hS hl hm
        rw [mX11_keep_L21] at hm
        refine lv_iload_n hx hb dX11_keep_21 rfl (lv_at hl 2 rfl) ?_
        refine lv_bipush (v := 50) hx hb dX11_keep_22 (by decide) ?_
        refine lv_icmp_ge (tgt := 50) hx hb dX11_keep_24 (by decide) (fun c24 => ?_) (fun c24 => ?_)
        · rw [if_pos c24] at hm
          refine lv_aload_n hx hb dX11_keep_50 rfl (lv_at hl 0 rfl) ?_
          refine lv_iconst (v := 0) hx hb dX11_keep_51 (by decide) ?_
          obtain ⟨r52, hc52, hm⟩ := kbind hm
          refine kcV0 (st1 := [.int r52]) X hA (c_X11_many l G cI cZ cE a_t a_t_now a_t_text a_t_covers a_t_order a_t_way a_t_tried a_t_row a_t_lids a_t_shown a_t_seenKnot a_t_seenLid a_t_seenHad a_t_isKept a_t_kept k_t_knots k_t_readKnots k_t_length k_t_reached k_t_acts k_t_next k_t_seen k_t_seed f_t_now 0 r52 hc52) (cwV 1 hts gX11_keep_X11_many rfl rfl rfl hd_X11_many ⟨Nat.le_of_ble_eq_true rfl, Nat.le_of_ble_eq_true rfl⟩) 0 8 rfl rfl hl.1 dX11_keep_52 hP hD hS [0, 1] rfl rfl rfl [] rfl (Nat.le_of_ble_eq_true rfl) rfl ⟨Nat.zero_le _, Nat.zero_le _⟩ (fun H locs hP hD hS => ?_)
          have hm := Option.some.inj hm
          subst hm
          exact k_iret (v := r52) X rfl dX11_keep_55 hP hD hS
        · rw [if_neg c24] at hm
          refine lv_aload_n hx hb dX11_keep_27 rfl (lv_at hl 0 rfl) ?_
          refine va_get (D := G) (ci := 8) (v := .ref a_t_kept) (C := RX11) (T := TX11) (N := 22) hx hb hts i_X11 hown hK hP 0 rfl rfl 21 (by decide) l_54 (fun _ h9 => h9) rfl dX11_keep_28 ?_
          refine lv_bipush (v := 50) hx hb dX11_keep_31 (by decide) ?_
          refine lv_iload_n hx hb dX11_keep_33 rfl (lv_at hl 1 rfl) ?_
          refine lv_imul hx hb dX11_keep_34 ?_
          refine lv_iload_n hx hb dX11_keep_35 rfl (lv_at hl 2 rfl) ?_
          refine lv_iadd hx hb dX11_keep_36 ?_
          refine lv_aload_n hx hb dX11_keep_37 rfl (lv_at hl 0 rfl) ?_
          refine va_get (D := G) (ci := 8) (v := .ref a_t_now) (C := RX11) (T := TX11) (N := 22) hx hb hts i_X11 hown hK hP 0 rfl rfl 1 (by decide) l_13 (fun _ h9 => h9) rfl dX11_keep_38 ?_
          refine lv_iload_n hx hb dX11_keep_41 rfl (lv_at hl 2 rfl) ?_
          obtain ⟨g42, hm⟩ := gd_some hm
          refine va_iald hx hb hK hP 1 0 rfl rfl (kin_ok g42) dX11_keep_42 ?_
          obtain ⟨g43, hm⟩ := gd_some hm
          refine va_iast hx hb hK hP hD hS 3 0 rfl rfl (kin_ok g43) dX11_keep_43 (fun H locs hP hD hS => ?_)
          have hP : va_P G vwCl [(a_t, .inr (8, [.int k_t_knots, .ref a_t_now, .int k_t_readKnots, .ref a_t_text, .int k_t_length, .ref a_t_covers, .int k_t_reached, .ref a_t_order, .ref a_t_way, .ref a_t_tried, .int k_t_acts, .int k_t_next, .ref a_t_row, .ref a_t_lids, .ref a_t_shown, .int k_t_seen, .ref a_t_seenKnot, .ref a_t_seenLid, .ref a_t_seenHad, .long k_t_seed, .ref a_t_isKept, .ref a_t_kept])), (a_t_now, .inl (cI, 100, .inl f_t_now)), (a_t_isKept, .inl (cZ, 2, .inl (upd f_t_isKept (Int32.toNatClampNeg p1) (vp_nar .boolean 1)))), (a_t_kept, .inl (cI, 100, .inl (upd w21_f_t_kept (Int32.toNatClampNeg ((50 * p1) + v21_2)) (f_t_now (Int32.toNatClampNeg v21_2)))))] H := hP
          have hD : va_D A [(a_t, .inr (8, [.int k_t_knots, .ref a_t_now, .int k_t_readKnots, .ref a_t_text, .int k_t_length, .ref a_t_covers, .int k_t_reached, .ref a_t_order, .ref a_t_way, .ref a_t_tried, .int k_t_acts, .int k_t_next, .ref a_t_row, .ref a_t_lids, .ref a_t_shown, .int k_t_seen, .ref a_t_seenKnot, .ref a_t_seenLid, .ref a_t_seenHad, .long k_t_seed, .ref a_t_isKept, .ref a_t_kept])), (a_t_now, .inl (cI, 100, .inl f_t_now)), (a_t_isKept, .inl (cZ, 2, .inl (upd f_t_isKept (Int32.toNatClampNeg p1) (vp_nar .boolean 1)))), (a_t_kept, .inl (cI, 100, .inl (upd w21_f_t_kept (Int32.toNatClampNeg ((50 * p1) + v21_2)) (f_t_now (Int32.toNatClampNeg v21_2)))))] := hD
          refine lv_iinc (v := v21_2 + 1) (lv' := [(2, .int (v21_2 + 1)), (0, .ref a_t), (1, .int p1)]) hx hb dX11_keep_44 hl (k := 2) rfl rfl (by decide) rfl (fun ls hl => ?_)
          refine lv_goto (tgt := 21) hx hb dX11_keep_47 (by decide) ?_
          exact ih21 (v21_2 + 1) (upd w21_f_t_kept (Int32.toNatClampNeg ((50 * p1) + v21_2)) (f_t_now (Int32.toNatClampNeg v21_2))) _ _ _ hP hD hS (lv_sub hl [1, 2, 0] rfl) hm
    exact h21 kFU 0 f_t_kept _ _ _ hP hD hS (lv_sub hl [1, 2, 0] rfl) hm
  · have c7 := kb0 c7
    rw [if_neg c7] at hm
    refine lv_iconst (v := (-1)) hx hb dX11_keep_10 (by decide) ?_
    have hm := Option.some.inj hm
    subst hm
    exact k_iret (v := (-1)) X rfl dX11_keep_11 hP hD hS
theorem hd_X11_keep : yX11_keep.cls = RX11 ∧ yX11_keep.cls ≠ "java/lang/invoke/MethodHandle" ∧ yX11_keep.cls ≠ "java/lang/invoke/VarHandle" ∧ (parseMethodDescriptor yX11_keep.desc).map (fun d => d.parameters.length) = some 1 := by decide +kernel
/-! CoverOrderModel again -/
set_option maxRecDepth 100000 in
set_option maxHeartbeats 4000000 in
theorem c_X11_again (l : Launch) (G : va_G) (cI cZ cE : ClassId) (a_t a_t_now a_t_text a_t_covers a_t_order a_t_way a_t_tried a_t_row a_t_lids a_t_shown a_t_seenKnot a_t_seenLid a_t_seenHad a_t_isKept a_t_kept : Nat) (k_t_knots : Int32) (k_t_readKnots : Int32) (k_t_length : Int32) (k_t_reached : Int32) (k_t_acts : Int32) (k_t_next : Int32) (k_t_seen : Int32) (k_t_seed : Int64) (f_t_now : Nat → Int32) (f_t_isKept : Nat → Int32) (f_t_kept : Nat → Int32) (p1 : Int32) (R : Int32 × Int32 × (Nat → Int32)) (hm : mX11_again k_t_acts f_t_now f_t_isKept f_t_kept p1 = some R) : kM l yX11_again wsX11_again { frames := 1, cells := 0, slots := 0, locals := 25 } G cI cZ cE [.ref a_t, .int p1] [(a_t, .inr (8, [.int k_t_knots, .ref a_t_now, .int k_t_readKnots, .ref a_t_text, .int k_t_length, .ref a_t_covers, .int k_t_reached, .ref a_t_order, .ref a_t_way, .ref a_t_tried, .int k_t_acts, .int k_t_next, .ref a_t_row, .ref a_t_lids, .ref a_t_shown, .int k_t_seen, .ref a_t_seenKnot, .ref a_t_seenLid, .ref a_t_seenHad, .long k_t_seed, .ref a_t_isKept, .ref a_t_kept])), (a_t_now, .inl (cI, 100, .inl f_t_now)), (a_t_isKept, .inl (cZ, 2, .inl f_t_isKept)), (a_t_kept, .inl (cI, 100, .inl f_t_kept))] [(a_t, .inr (8, [.int k_t_knots, .ref a_t_now, .int k_t_readKnots, .ref a_t_text, .int k_t_length, .ref a_t_covers, .int k_t_reached, .ref a_t_order, .ref a_t_way, .ref a_t_tried, .int R.2.1, .int k_t_next, .ref a_t_row, .ref a_t_lids, .ref a_t_shown, .int k_t_seen, .ref a_t_seenKnot, .ref a_t_seenLid, .ref a_t_seenHad, .long k_t_seed, .ref a_t_isKept, .ref a_t_kept])), (a_t_now, .inl (cI, 100, .inl R.2.2)), (a_t_isKept, .inl (cZ, 2, .inl f_t_isKept)), (a_t_kept, .inl (cI, 100, .inl f_t_kept))] (some (.int R.1)) := by
  refine kM_of cX11_again 3 (some .int) RX11 (by decide) rfl rfl (Nat.le_of_ble_eq_true rfl) ?_
  intro p e s m below meth c A ls X hA hP hD hS hl
  have hx := X.1.1
  have hb := X.1.2.1
  have hts := X.1.2.2.2.2
  have hown := X.1.2.2.2.1
  have hK := X.2.2.2.1
  have l_50 : (.fieldLink RX11 50 "CoverOrderModel" "isKept" "[Z" : Cond).before _ s = true := hts _ (List.mem_of_getElem? (i := 1) (by decide +kernel))
  have i_X11 : ∀ w ∈ u_ws RX11 TX11 22, w ∈ wsX11_again := k_in _ [13, 14, 15, 16, 17, 18, 19, 20, 21, 22, 23, 24, 25, 26, 27, 28, 29, 30, 31, 32, 33, 34] (by decide +kernel)
  have l_96 : (.fieldLink RX11 96 "CoverOrderModel" "acts" "I" : Cond).before _ s = true := hts _ (List.mem_of_getElem? (i := 4) (by decide +kernel))
  have l_13 : (.fieldLink RX11 13 "CoverOrderModel" "now" "[I" : Cond).before _ s = true := hts _ (List.mem_of_getElem? (i := 2) (by decide +kernel))
  have l_54 : (.fieldLink RX11 54 "CoverOrderModel" "kept" "[I" : Cond).before _ s = true := hts _ (List.mem_of_getElem? (i := 3) (by decide +kernel))
  have hl : lv_has ls 3 [(0, .ref a_t), (1, .int p1)] := hl
  rw [mX11_again] at hm
  refine lv_iload_n hx hb dX11_again_0 rfl (lv_at hl 1 rfl) ?_
  refine lv_i2l (v := (p1 : Int32).toInt64) hx hb dX11_again_1 rfl ?_
  refine lv_lconst (v := 0) hx hb dX11_again_2 (by decide) ?_
  refine lv_lconst (v := 1) hx hb dX11_again_3 (by decide) ?_
  refine kcS0 (st1 := [.int (bI (mX11_in ((p1 : Int32).toInt64) 0 1))]) X hA (c_X11_in l G cI cZ cE ((p1 : Int32).toInt64) 0 1 _ rfl) (va_cwS 3 hts gX11_again_X11_in rfl rfl rfl hd_X11_in ⟨Nat.le_of_ble_eq_true rfl, Nat.le_of_ble_eq_true rfl⟩) hl.1 dX11_again_4 hP hD hS [] rfl rfl rfl [] rfl (Nat.le_of_ble_eq_true rfl) rfl ⟨Nat.zero_le _, Nat.zero_le _⟩ (fun H locs hP hD hS => ?_)
  refine lv_if_ne (tgt := 12) hx hb dX11_again_7 (by decide) (fun c7 => ?_) (fun c7 => ?_)
  · have c7 := kb1 c7
    rw [if_pos c7] at hm
    refine lv_aload_n hx hb dX11_again_12 rfl (lv_at hl 0 rfl) ?_
    refine va_get (D := G) (ci := 8) (v := .ref a_t_isKept) (C := RX11) (T := TX11) (N := 22) hx hb hts i_X11 hown hK hP 0 rfl rfl 20 (by decide) l_50 (fun _ h9 => h9) rfl dX11_again_13 ?_
    refine lv_iload_n hx hb dX11_again_16 rfl (lv_at hl 1 rfl) ?_
    obtain ⟨g17, hm⟩ := gd_some hm
    refine va_zald hx hb hK hP 2 1 rfl rfl (kin_ok g17) dX11_again_17 ?_
    refine lv_if_ne (tgt := 24) hx hb dX11_again_18 (by decide) (fun c18 => ?_) (fun c18 => ?_)
    · rw [if_neg c18] at hm
      refine lv_iconst (v := 0) hx hb dX11_again_24 (by decide) ?_
      refine lv_istore_n (lv' := [(2, .int 0), (0, .ref a_t), (1, .int p1)]) hx hb dX11_again_25 rfl hl (by decide) rfl (fun ls hl => ?_)
      have h26 : ∀ (n26 : Nat), ∀ (v26_2 : Int32) (w26_f_t_now : Nat → Int32) (H : Heap) (locs : List Loc) (ls : Array Slot), va_P G vwCl [(a_t, .inr (8, [.int k_t_knots, .ref a_t_now, .int k_t_readKnots, .ref a_t_text, .int k_t_length, .ref a_t_covers, .int k_t_reached, .ref a_t_order, .ref a_t_way, .ref a_t_tried, .int k_t_acts, .int k_t_next, .ref a_t_row, .ref a_t_lids, .ref a_t_shown, .int k_t_seen, .ref a_t_seenKnot, .ref a_t_seenLid, .ref a_t_seenHad, .long k_t_seed, .ref a_t_isKept, .ref a_t_kept])), (a_t_now, .inl (cI, 100, .inl w26_f_t_now)), (a_t_isKept, .inl (cZ, 2, .inl f_t_isKept)), (a_t_kept, .inl (cI, 100, .inl f_t_kept))] H → va_D A [(a_t, .inr (8, [.int k_t_knots, .ref a_t_now, .int k_t_readKnots, .ref a_t_text, .int k_t_length, .ref a_t_covers, .int k_t_reached, .ref a_t_order, .ref a_t_way, .ref a_t_tried, .int k_t_acts, .int k_t_next, .ref a_t_row, .ref a_t_lids, .ref a_t_shown, .int k_t_seen, .ref a_t_seenKnot, .ref a_t_seenLid, .ref a_t_seenHad, .long k_t_seed, .ref a_t_isKept, .ref a_t_kept])), (a_t_now, .inl (cI, 100, .inl w26_f_t_now)), (a_t_isKept, .inl (cZ, 2, .inl f_t_isKept)), (a_t_kept, .inl (cI, 100, .inl f_t_kept))] → va_S A s.heap H locs → lv_has ls 3 [(0, .ref a_t), (1, .int p1), (2, .int v26_2)] → mX11_again_L26 f_t_kept p1 n26 v26_2 w26_f_t_now = some R → W p l e { frames := 1, cells := 0, slots := 0, locals := 25 } s m ([.ref a_t, .int p1] : List Value).toArray below meth c H locs 0 0 (kQ below G [(a_t, .inr (8, [.int k_t_knots, .ref a_t_now, .int k_t_readKnots, .ref a_t_text, .int k_t_length, .ref a_t_covers, .int k_t_reached, .ref a_t_order, .ref a_t_way, .ref a_t_tried, .int R.2.1, .int k_t_next, .ref a_t_row, .ref a_t_lids, .ref a_t_shown, .int k_t_seen, .ref a_t_seenKnot, .ref a_t_seenLid, .ref a_t_seenHad, .long k_t_seed, .ref a_t_isKept, .ref a_t_kept])), (a_t_now, .inl (cI, 100, .inl R.2.2)), (a_t_isKept, .inl (cZ, 2, .inl f_t_isKept)), (a_t_kept, .inl (cI, 100, .inl f_t_kept))] (some (.int R.1)) A ([.ref a_t, .int p1] : List Value).toArray s) (F0 m 26 ls []) := by
        intro n26
        induction n26 with
        | zero => intro v26_2 w26_f_t_now H locs ls hP hD hS hl hm; rw [mX11_again_L26] at hm; cases hm
        | succ n26 ih26 =>
          intro v26_2 w26_f_t_now H locs ls hP hD hS hl hm
          rw [mX11_again_L26] at hm
          refine lv_iload_n hx hb dX11_again_26 rfl (lv_at hl 2 rfl) ?_
          refine lv_bipush (v := 50) hx hb dX11_again_27 (by decide) ?_
          have h55 : ∀ (H : Heap) (locs : List Loc) (ls : Array Slot), va_P G vwCl [(a_t, .inr (8, [.int k_t_knots, .ref a_t_now, .int k_t_readKnots, .ref a_t_text, .int k_t_length, .ref a_t_covers, .int k_t_reached, .ref a_t_order, .ref a_t_way, .ref a_t_tried, .int k_t_acts, .int k_t_next, .ref a_t_row, .ref a_t_lids, .ref a_t_shown, .int k_t_seen, .ref a_t_seenKnot, .ref a_t_seenLid, .ref a_t_seenHad, .long k_t_seed, .ref a_t_isKept, .ref a_t_kept])), (a_t_now, .inl (cI, 100, .inl w26_f_t_now)), (a_t_isKept, .inl (cZ, 2, .inl f_t_isKept)), (a_t_kept, .inl (cI, 100, .inl f_t_kept))] H → va_D A [(a_t, .inr (8, [.int k_t_knots, .ref a_t_now, .int k_t_readKnots, .ref a_t_text, .int k_t_length, .ref a_t_covers, .int k_t_reached, .ref a_t_order, .ref a_t_way, .ref a_t_tried, .int k_t_acts, .int k_t_next, .ref a_t_row, .ref a_t_lids, .ref a_t_shown, .int k_t_seen, .ref a_t_seenKnot, .ref a_t_seenLid, .ref a_t_seenHad, .long k_t_seed, .ref a_t_isKept, .ref a_t_kept])), (a_t_now, .inl (cI, 100, .inl w26_f_t_now)), (a_t_isKept, .inl (cZ, 2, .inl f_t_isKept)), (a_t_kept, .inl (cI, 100, .inl f_t_kept))] → va_S A s.heap H locs → lv_has ls 3 [(0, .ref a_t)] → mX11_again_J55 w26_f_t_now = some R → W p l e { frames := 1, cells := 0, slots := 0, locals := 25 } s m ([.ref a_t, .int p1] : List Value).toArray below meth c H locs 0 0 (kQ below G [(a_t, .inr (8, [.int k_t_knots, .ref a_t_now, .int k_t_readKnots, .ref a_t_text, .int k_t_length, .ref a_t_covers, .int k_t_reached, .ref a_t_order, .ref a_t_way, .ref a_t_tried, .int R.2.1, .int k_t_next, .ref a_t_row, .ref a_t_lids, .ref a_t_shown, .int k_t_seen, .ref a_t_seenKnot, .ref a_t_seenLid, .ref a_t_seenHad, .long k_t_seed, .ref a_t_isKept, .ref a_t_kept])), (a_t_now, .inl (cI, 100, .inl R.2.2)), (a_t_isKept, .inl (cZ, 2, .inl f_t_isKept)), (a_t_kept, .inl (cI, 100, .inl f_t_kept))] (some (.int R.1)) A ([.ref a_t, .int p1] : List Value).toArray s) (F0 m 55 ls []) := by
            intro H locs ls hP hD hS hl hm
            rw [mX11_again_J55] at hm
            refine lv_aload_n hx hb dX11_again_55 rfl (lv_at hl 0 rfl) ?_
            refine lv_iconst (v := 0) hx hb dX11_again_56 (by decide) ?_
            refine va_put (D := G) (ci := 8) (v := .int 0) (ty := .int) (C := RX11) (T := TX11) (N := 22) hx hb hts i_X11 tyX11 tyX11_ok nmX11 hown hK hP hD hS 0 rfl rfl 10 (by decide) l_96 (fun _ h9 => h9) rfl (by decide +kernel) rfl rfl (Nat.le_of_ble_eq_true rfl) dX11_again_57 (fun H locs hP hD hS => ?_)
            have hP : va_P G vwCl [(a_t, .inr (8, [.int k_t_knots, .ref a_t_now, .int k_t_readKnots, .ref a_t_text, .int k_t_length, .ref a_t_covers, .int k_t_reached, .ref a_t_order, .ref a_t_way, .ref a_t_tried, .int 0, .int k_t_next, .ref a_t_row, .ref a_t_lids, .ref a_t_shown, .int k_t_seen, .ref a_t_seenKnot, .ref a_t_seenLid, .ref a_t_seenHad, .long k_t_seed, .ref a_t_isKept, .ref a_t_kept])), (a_t_now, .inl (cI, 100, .inl w26_f_t_now)), (a_t_isKept, .inl (cZ, 2, .inl f_t_isKept)), (a_t_kept, .inl (cI, 100, .inl f_t_kept))] H := hP
            have hD : va_D A [(a_t, .inr (8, [.int k_t_knots, .ref a_t_now, .int k_t_readKnots, .ref a_t_text, .int k_t_length, .ref a_t_covers, .int k_t_reached, .ref a_t_order, .ref a_t_way, .ref a_t_tried, .int 0, .int k_t_next, .ref a_t_row, .ref a_t_lids, .ref a_t_shown, .int k_t_seen, .ref a_t_seenKnot, .ref a_t_seenLid, .ref a_t_seenHad, .long k_t_seed, .ref a_t_isKept, .ref a_t_kept])), (a_t_now, .inl (cI, 100, .inl w26_f_t_now)), (a_t_isKept, .inl (cZ, 2, .inl f_t_isKept)), (a_t_kept, .inl (cI, 100, .inl f_t_kept))] := hD
            refine lv_aload_n hx hb dX11_again_60 rfl (lv_at hl 0 rfl) ?_
            refine lv_iconst (v := 0) hx hb dX11_again_61 (by decide) ?_
            obtain ⟨r62, hc62, hm⟩ := kbind hm
            refine kcV0 (st1 := [.int r62]) X hA (c_X11_many l G cI cZ cE a_t a_t_now a_t_text a_t_covers a_t_order a_t_way a_t_tried a_t_row a_t_lids a_t_shown a_t_seenKnot a_t_seenLid a_t_seenHad a_t_isKept a_t_kept k_t_knots k_t_readKnots k_t_length k_t_reached 0 k_t_next k_t_seen k_t_seed w26_f_t_now 0 r62 hc62) (cwV 1 hts gX11_again_X11_many rfl rfl rfl hd_X11_many ⟨Nat.le_of_ble_eq_true rfl, Nat.le_of_ble_eq_true rfl⟩) 0 8 rfl rfl hl.1 dX11_again_62 hP hD hS [0, 1] rfl rfl rfl [] rfl (Nat.le_of_ble_eq_true rfl) rfl ⟨Nat.zero_le _, Nat.zero_le _⟩ (fun H locs hP hD hS => ?_)
            have hm := Option.some.inj hm
            subst hm
            exact k_iret (v := r62) X rfl dX11_again_65 hP hD hS
          refine lv_icmp_ge (tgt := 55) hx hb dX11_again_29 (by decide) (fun c29 => ?_) (fun c29 => ?_)
          · rw [if_pos c29] at hm
            exact h55 _ _ _ hP hD hS (lv_sub hl [0] rfl) hm
          · rw [if_neg c29] at hm
            refine lv_aload_n hx hb dX11_again_32 rfl (lv_at hl 0 rfl) ?_
            refine va_get (D := G) (ci := 8) (v := .ref a_t_now) (C := RX11) (T := TX11) (N := 22) hx hb hts i_X11 hown hK hP 0 rfl rfl 1 (by decide) l_13 (fun _ h9 => h9) rfl dX11_again_33 ?_
            refine lv_iload_n hx hb dX11_again_36 rfl (lv_at hl 2 rfl) ?_
            refine lv_aload_n hx hb dX11_again_37 rfl (lv_at hl 0 rfl) ?_
            refine va_get (D := G) (ci := 8) (v := .ref a_t_kept) (C := RX11) (T := TX11) (N := 22) hx hb hts i_X11 hown hK hP 0 rfl rfl 21 (by decide) l_54 (fun _ h9 => h9) rfl dX11_again_38 ?_
            refine lv_bipush (v := 50) hx hb dX11_again_41 (by decide) ?_
            refine lv_iload_n hx hb dX11_again_43 rfl (lv_at hl 1 rfl) ?_
            refine lv_imul hx hb dX11_again_44 ?_
            refine lv_iload_n hx hb dX11_again_45 rfl (lv_at hl 2 rfl) ?_
            refine lv_iadd hx hb dX11_again_46 ?_
            obtain ⟨g47, hm⟩ := gd_some hm
            refine va_iald hx hb hK hP 3 0 rfl rfl (kin_ok g47) dX11_again_47 ?_
            obtain ⟨g48, hm⟩ := gd_some hm
            refine va_iast hx hb hK hP hD hS 1 0 rfl rfl (kin_ok g48) dX11_again_48 (fun H locs hP hD hS => ?_)
            have hP : va_P G vwCl [(a_t, .inr (8, [.int k_t_knots, .ref a_t_now, .int k_t_readKnots, .ref a_t_text, .int k_t_length, .ref a_t_covers, .int k_t_reached, .ref a_t_order, .ref a_t_way, .ref a_t_tried, .int k_t_acts, .int k_t_next, .ref a_t_row, .ref a_t_lids, .ref a_t_shown, .int k_t_seen, .ref a_t_seenKnot, .ref a_t_seenLid, .ref a_t_seenHad, .long k_t_seed, .ref a_t_isKept, .ref a_t_kept])), (a_t_now, .inl (cI, 100, .inl (upd w26_f_t_now (Int32.toNatClampNeg v26_2) (f_t_kept (Int32.toNatClampNeg ((50 * p1) + v26_2)))))), (a_t_isKept, .inl (cZ, 2, .inl f_t_isKept)), (a_t_kept, .inl (cI, 100, .inl f_t_kept))] H := hP
            have hD : va_D A [(a_t, .inr (8, [.int k_t_knots, .ref a_t_now, .int k_t_readKnots, .ref a_t_text, .int k_t_length, .ref a_t_covers, .int k_t_reached, .ref a_t_order, .ref a_t_way, .ref a_t_tried, .int k_t_acts, .int k_t_next, .ref a_t_row, .ref a_t_lids, .ref a_t_shown, .int k_t_seen, .ref a_t_seenKnot, .ref a_t_seenLid, .ref a_t_seenHad, .long k_t_seed, .ref a_t_isKept, .ref a_t_kept])), (a_t_now, .inl (cI, 100, .inl (upd w26_f_t_now (Int32.toNatClampNeg v26_2) (f_t_kept (Int32.toNatClampNeg ((50 * p1) + v26_2)))))), (a_t_isKept, .inl (cZ, 2, .inl f_t_isKept)), (a_t_kept, .inl (cI, 100, .inl f_t_kept))] := hD
            refine lv_iinc (v := v26_2 + 1) (lv' := [(2, .int (v26_2 + 1)), (0, .ref a_t), (1, .int p1)]) hx hb dX11_again_49 hl (k := 2) rfl rfl (by decide) rfl (fun ls hl => ?_)
            refine lv_goto (tgt := 26) hx hb dX11_again_52 (by decide) ?_
            exact ih26 (v26_2 + 1) (upd w26_f_t_now (Int32.toNatClampNeg v26_2) (f_t_kept (Int32.toNatClampNeg ((50 * p1) + v26_2)))) _ _ _ hP hD hS (lv_sub hl [1, 2, 0] rfl) hm
      exact h26 kFU 0 f_t_now _ _ _ hP hD hS (lv_sub hl [1, 2, 0] rfl) hm
    · rw [if_pos c18] at hm
      refine lv_bipush (v := (-3)) hx hb dX11_again_21 (by decide) ?_
      have hm := Option.some.inj hm
      subst hm
      exact k_iret (v := (-3)) X rfl dX11_again_23 hP hD hS
  · have c7 := kb0 c7
    rw [if_neg c7] at hm
    refine lv_iconst (v := (-1)) hx hb dX11_again_10 (by decide) ?_
    have hm := Option.some.inj hm
    subst hm
    exact k_iret (v := (-1)) X rfl dX11_again_11 hP hD hS
theorem hd_X11_again : yX11_again.cls = RX11 ∧ yX11_again.cls ≠ "java/lang/invoke/MethodHandle" ∧ yX11_again.cls ≠ "java/lang/invoke/VarHandle" ∧ (parseMethodDescriptor yX11_again.desc).map (fun d => d.parameters.length) = some 1 := by decide +kernel
/-! CoverOrderModel greatestDepth -/
set_option maxRecDepth 100000 in
set_option maxHeartbeats 4000000 in
theorem c_X11_greatestDepth (l : Launch) (G : va_G) (cI cZ cE : ClassId) (a_t a_t_now a_t_text a_t_covers a_t_order a_t_way a_t_tried a_t_row a_t_lids a_t_shown a_t_seenKnot a_t_seenLid a_t_seenHad a_t_isKept a_t_kept : Nat) (k_t_knots : Int32) (k_t_readKnots : Int32) (k_t_length : Int32) (k_t_reached : Int32) (k_t_acts : Int32) (k_t_next : Int32) (k_t_seen : Int32) (k_t_seed : Int64) (f_t_covers : Nat → Int32) (R : Int32) (hm : mX11_greatestDepth k_t_reached f_t_covers = some R) : kM l yX11_greatestDepth wsX11_greatestDepth { frames := 2, cells := 0, slots := 0, locals := 43 } G cI cZ cE [.ref a_t] [(a_t, .inr (8, [.int k_t_knots, .ref a_t_now, .int k_t_readKnots, .ref a_t_text, .int k_t_length, .ref a_t_covers, .int k_t_reached, .ref a_t_order, .ref a_t_way, .ref a_t_tried, .int k_t_acts, .int k_t_next, .ref a_t_row, .ref a_t_lids, .ref a_t_shown, .int k_t_seen, .ref a_t_seenKnot, .ref a_t_seenLid, .ref a_t_seenHad, .long k_t_seed, .ref a_t_isKept, .ref a_t_kept])), (a_t_covers, .inl (cI, 8, .inl f_t_covers))] [(a_t, .inr (8, [.int k_t_knots, .ref a_t_now, .int k_t_readKnots, .ref a_t_text, .int k_t_length, .ref a_t_covers, .int k_t_reached, .ref a_t_order, .ref a_t_way, .ref a_t_tried, .int k_t_acts, .int k_t_next, .ref a_t_row, .ref a_t_lids, .ref a_t_shown, .int k_t_seen, .ref a_t_seenKnot, .ref a_t_seenLid, .ref a_t_seenHad, .long k_t_seed, .ref a_t_isKept, .ref a_t_kept])), (a_t_covers, .inl (cI, 8, .inl f_t_covers))] (some (.int R)) := by
  refine kM_of cX11_greatestDepth 3 (some .int) RX11 (by decide) rfl rfl (Nat.le_of_ble_eq_true rfl) ?_
  intro p e s m below meth c A ls X hA hP hD hS hl
  have hx := X.1.1
  have hb := X.1.2.1
  have hts := X.1.2.2.2.2
  have hown := X.1.2.2.2.1
  have hK := X.2.2.2.1
  have hl : lv_has ls 3 [(0, .ref a_t)] := hl
  rw [mX11_greatestDepth] at hm
  refine lv_iconst (v := 0) hx hb dX11_greatestDepth_0 (by decide) ?_
  refine lv_istore_n (lv' := [(1, .int 0), (0, .ref a_t)]) hx hb dX11_greatestDepth_1 rfl hl (by decide) rfl (fun ls hl => ?_)
  refine lv_iconst (v := 0) hx hb dX11_greatestDepth_2 (by decide) ?_
  refine lv_istore_n (lv' := [(2, .int 0), (1, .int 0), (0, .ref a_t)]) hx hb dX11_greatestDepth_3 rfl hl (by decide) rfl (fun ls hl => ?_)
  have h4 : ∀ (n4 : Nat), ∀ (v4_1 : Int32) (v4_2 : Int32) (H : Heap) (locs : List Loc) (ls : Array Slot), va_P G vwCl [(a_t, .inr (8, [.int k_t_knots, .ref a_t_now, .int k_t_readKnots, .ref a_t_text, .int k_t_length, .ref a_t_covers, .int k_t_reached, .ref a_t_order, .ref a_t_way, .ref a_t_tried, .int k_t_acts, .int k_t_next, .ref a_t_row, .ref a_t_lids, .ref a_t_shown, .int k_t_seen, .ref a_t_seenKnot, .ref a_t_seenLid, .ref a_t_seenHad, .long k_t_seed, .ref a_t_isKept, .ref a_t_kept])), (a_t_covers, .inl (cI, 8, .inl f_t_covers))] H → va_D A [(a_t, .inr (8, [.int k_t_knots, .ref a_t_now, .int k_t_readKnots, .ref a_t_text, .int k_t_length, .ref a_t_covers, .int k_t_reached, .ref a_t_order, .ref a_t_way, .ref a_t_tried, .int k_t_acts, .int k_t_next, .ref a_t_row, .ref a_t_lids, .ref a_t_shown, .int k_t_seen, .ref a_t_seenKnot, .ref a_t_seenLid, .ref a_t_seenHad, .long k_t_seed, .ref a_t_isKept, .ref a_t_kept])), (a_t_covers, .inl (cI, 8, .inl f_t_covers))] → va_S A s.heap H locs → lv_has ls 3 [(0, .ref a_t), (1, .int v4_1), (2, .int v4_2)] → mX11_greatestDepth_L4 k_t_reached f_t_covers n4 v4_1 v4_2 = some R → W p l e { frames := 2, cells := 0, slots := 0, locals := 43 } s m ([.ref a_t] : List Value).toArray below meth c H locs 0 0 (kQ below G [(a_t, .inr (8, [.int k_t_knots, .ref a_t_now, .int k_t_readKnots, .ref a_t_text, .int k_t_length, .ref a_t_covers, .int k_t_reached, .ref a_t_order, .ref a_t_way, .ref a_t_tried, .int k_t_acts, .int k_t_next, .ref a_t_row, .ref a_t_lids, .ref a_t_shown, .int k_t_seen, .ref a_t_seenKnot, .ref a_t_seenLid, .ref a_t_seenHad, .long k_t_seed, .ref a_t_isKept, .ref a_t_kept])), (a_t_covers, .inl (cI, 8, .inl f_t_covers))] (some (.int R)) A ([.ref a_t] : List Value).toArray s) (F0 m 4 ls []) := by
    intro n4
    induction n4 with
    | zero => intro v4_1 v4_2 H locs ls hP hD hS hl hm; rw [mX11_greatestDepth_L4] at hm; cases hm
    | succ n4 ih4 =>
      intro v4_1 v4_2 H locs ls hP hD hS hl hm
      rw [mX11_greatestDepth_L4] at hm
      refine lv_iload_n hx hb dX11_greatestDepth_4 rfl (lv_at hl 2 rfl) ?_
      refine lv_bipush (v := 8) hx hb dX11_greatestDepth_5 (by decide) ?_
      refine lv_icmp_ge (tgt := 35) hx hb dX11_greatestDepth_7 (by decide) (fun c7 => ?_) (fun c7 => ?_)
      · rw [if_pos c7] at hm
        refine lv_iload_n hx hb dX11_greatestDepth_35 rfl (lv_at hl 1 rfl) ?_
        have hm := Option.some.inj hm
        subst hm
        exact k_iret (v := v4_1) X rfl dX11_greatestDepth_36 hP hD hS
      · rw [if_neg c7] at hm
        refine lv_aload_n hx hb dX11_greatestDepth_10 rfl (lv_at hl 0 rfl) ?_
        refine lv_iload_n hx hb dX11_greatestDepth_11 rfl (lv_at hl 2 rfl) ?_
        obtain ⟨r12, hc12, hm⟩ := kbind hm
        refine kcV0 (st1 := [.int r12]) X hA (c_X11_depthOf l G cI cZ cE a_t a_t_now a_t_text a_t_covers a_t_order a_t_way a_t_tried a_t_row a_t_lids a_t_shown a_t_seenKnot a_t_seenLid a_t_seenHad a_t_isKept a_t_kept k_t_knots k_t_readKnots k_t_length k_t_reached k_t_acts k_t_next k_t_seen k_t_seed f_t_covers v4_2 r12 hc12) (cwV 1 hts gX11_greatestDepth_X11_depthOf rfl rfl rfl hd_X11_depthOf ⟨Nat.le_of_ble_eq_true rfl, Nat.le_of_ble_eq_true rfl⟩) 0 8 rfl rfl hl.1 dX11_greatestDepth_12 hP hD hS [0, 1] rfl rfl rfl [] rfl (Nat.le_of_ble_eq_true rfl) rfl ⟨Nat.zero_le _, Nat.zero_le _⟩ (fun H locs hP hD hS => ?_)
        refine lv_iload_n hx hb dX11_greatestDepth_15 rfl (lv_at hl 1 rfl) ?_
        refine lv_icmp_le (tgt := 27) hx hb dX11_greatestDepth_16 (by decide) (fun c16 => ?_) (fun c16 => ?_)
        · rw [if_pos c16] at hm
          refine lv_iload_n hx hb dX11_greatestDepth_27 rfl (lv_at hl 1 rfl) ?_
          refine lv_istore_n (lv' := [(1, .int v4_1), (0, .ref a_t), (2, .int v4_2)]) hx hb dX11_greatestDepth_28 rfl hl (by decide) rfl (fun ls hl => ?_)
          refine lv_iinc (v := v4_2 + 1) (lv' := [(2, .int (v4_2 + 1)), (1, .int v4_1), (0, .ref a_t)]) hx hb dX11_greatestDepth_29 hl (k := 2) rfl rfl (by decide) rfl (fun ls hl => ?_)
          refine lv_goto (tgt := 4) hx hb dX11_greatestDepth_32 (by decide) ?_
          exact ih4 v4_1 (v4_2 + 1) _ _ _ hP hD hS (lv_sub hl [2, 1, 0] rfl) hm
        · rw [if_neg c16] at hm
          refine lv_aload_n hx hb dX11_greatestDepth_19 rfl (lv_at hl 0 rfl) ?_
          refine lv_iload_n hx hb dX11_greatestDepth_20 rfl (lv_at hl 2 rfl) ?_
          obtain ⟨r21, hc21, hm⟩ := kbind hm
          refine kcV0 (st1 := [.int r21]) X hA (c_X11_depthOf l G cI cZ cE a_t a_t_now a_t_text a_t_covers a_t_order a_t_way a_t_tried a_t_row a_t_lids a_t_shown a_t_seenKnot a_t_seenLid a_t_seenHad a_t_isKept a_t_kept k_t_knots k_t_readKnots k_t_length k_t_reached k_t_acts k_t_next k_t_seen k_t_seed f_t_covers v4_2 r21 hc21) (cwV 1 hts gX11_greatestDepth_X11_depthOf rfl rfl rfl hd_X11_depthOf ⟨Nat.le_of_ble_eq_true rfl, Nat.le_of_ble_eq_true rfl⟩) 0 8 rfl rfl hl.1 dX11_greatestDepth_21 hP hD hS [0, 1] rfl rfl rfl [] rfl (Nat.le_of_ble_eq_true rfl) rfl ⟨Nat.zero_le _, Nat.zero_le _⟩ (fun H locs hP hD hS => ?_)
          refine lv_goto (tgt := 28) hx hb dX11_greatestDepth_24 (by decide) ?_
          refine lv_istore_n (lv' := [(1, .int r21), (0, .ref a_t), (2, .int v4_2)]) hx hb dX11_greatestDepth_28 rfl hl (by decide) rfl (fun ls hl => ?_)
          refine lv_iinc (v := v4_2 + 1) (lv' := [(2, .int (v4_2 + 1)), (1, .int r21), (0, .ref a_t)]) hx hb dX11_greatestDepth_29 hl (k := 2) rfl rfl (by decide) rfl (fun ls hl => ?_)
          refine lv_goto (tgt := 4) hx hb dX11_greatestDepth_32 (by decide) ?_
          exact ih4 r21 (v4_2 + 1) _ _ _ hP hD hS (lv_sub hl [2, 1, 0] rfl) hm
  exact h4 kFU 0 0 _ _ _ hP hD hS (lv_sub hl [2, 1, 0] rfl) hm
theorem hd_X11_greatestDepth : yX11_greatestDepth.cls = RX11 ∧ yX11_greatestDepth.cls ≠ "java/lang/invoke/MethodHandle" ∧ yX11_greatestDepth.cls ≠ "java/lang/invoke/VarHandle" ∧ (parseMethodDescriptor yX11_greatestDepth.desc).map (fun d => d.parameters.length) = some 0 := by decide +kernel
/-! CoverOrderModel edgesReached -/
set_option maxRecDepth 100000 in
set_option maxHeartbeats 4000000 in
theorem c_X11_edgesReached (l : Launch) (G : va_G) (cI cZ cE : ClassId) (a_t a_t_now a_t_text a_t_covers a_t_order a_t_way a_t_tried a_t_row a_t_lids a_t_shown a_t_seenKnot a_t_seenLid a_t_seenHad a_t_isKept a_t_kept : Nat) (k_t_knots : Int32) (k_t_readKnots : Int32) (k_t_length : Int32) (k_t_reached : Int32) (k_t_acts : Int32) (k_t_next : Int32) (k_t_seen : Int32) (k_t_seed : Int64) (f_t_now : Nat → Int32) (R : Int32) (hm : mX11_edgesReached k_t_reached f_t_now = some R) : kM l yX11_edgesReached wsX11_edgesReached { frames := 1, cells := 0, slots := 0, locals := 22 } G cI cZ cE [.ref a_t] [(a_t, .inr (8, [.int k_t_knots, .ref a_t_now, .int k_t_readKnots, .ref a_t_text, .int k_t_length, .ref a_t_covers, .int k_t_reached, .ref a_t_order, .ref a_t_way, .ref a_t_tried, .int k_t_acts, .int k_t_next, .ref a_t_row, .ref a_t_lids, .ref a_t_shown, .int k_t_seen, .ref a_t_seenKnot, .ref a_t_seenLid, .ref a_t_seenHad, .long k_t_seed, .ref a_t_isKept, .ref a_t_kept])), (a_t_now, .inl (cI, 100, .inl f_t_now))] [(a_t, .inr (8, [.int k_t_knots, .ref a_t_now, .int k_t_readKnots, .ref a_t_text, .int k_t_length, .ref a_t_covers, .int k_t_reached, .ref a_t_order, .ref a_t_way, .ref a_t_tried, .int k_t_acts, .int k_t_next, .ref a_t_row, .ref a_t_lids, .ref a_t_shown, .int k_t_seen, .ref a_t_seenKnot, .ref a_t_seenLid, .ref a_t_seenHad, .long k_t_seed, .ref a_t_isKept, .ref a_t_kept])), (a_t_now, .inl (cI, 100, .inl f_t_now))] (some (.int R)) := by
  refine kM_of cX11_edgesReached 3 (some .int) RX11 (by decide) rfl rfl (Nat.le_of_ble_eq_true rfl) ?_
  intro p e s m below meth c A ls X hA hP hD hS hl
  have hx := X.1.1
  have hb := X.1.2.1
  have hts := X.1.2.2.2.2
  have hown := X.1.2.2.2.1
  have hK := X.2.2.2.1
  have l_110 : (.fieldLink RX11 110 "CoverOrderModel" "reached" "I" : Cond).before _ s = true := hts _ (List.mem_of_getElem? (i := 1) (by decide +kernel))
  have i_X11 : ∀ w ∈ u_ws RX11 TX11 22, w ∈ wsX11_edgesReached := k_in _ [15, 16, 17, 18, 19, 20, 21, 22, 23, 24, 25, 26, 27, 28, 29, 30, 31, 32, 33, 34, 35, 36] (by decide +kernel)
  have hl : lv_has ls 3 [(0, .ref a_t)] := hl
  rw [mX11_edgesReached] at hm
  refine lv_iconst (v := 0) hx hb dX11_edgesReached_0 (by decide) ?_
  refine lv_istore_n (lv' := [(1, .int 0), (0, .ref a_t)]) hx hb dX11_edgesReached_1 rfl hl (by decide) rfl (fun ls hl => ?_)
  refine lv_iconst (v := 0) hx hb dX11_edgesReached_2 (by decide) ?_
  refine lv_istore_n (lv' := [(2, .int 0), (1, .int 0), (0, .ref a_t)]) hx hb dX11_edgesReached_3 rfl hl (by decide) rfl (fun ls hl => ?_)
  have h4 : ∀ (n4 : Nat), ∀ (v4_1 : Int32) (v4_2 : Int32) (H : Heap) (locs : List Loc) (ls : Array Slot), va_P G vwCl [(a_t, .inr (8, [.int k_t_knots, .ref a_t_now, .int k_t_readKnots, .ref a_t_text, .int k_t_length, .ref a_t_covers, .int k_t_reached, .ref a_t_order, .ref a_t_way, .ref a_t_tried, .int k_t_acts, .int k_t_next, .ref a_t_row, .ref a_t_lids, .ref a_t_shown, .int k_t_seen, .ref a_t_seenKnot, .ref a_t_seenLid, .ref a_t_seenHad, .long k_t_seed, .ref a_t_isKept, .ref a_t_kept])), (a_t_now, .inl (cI, 100, .inl f_t_now))] H → va_D A [(a_t, .inr (8, [.int k_t_knots, .ref a_t_now, .int k_t_readKnots, .ref a_t_text, .int k_t_length, .ref a_t_covers, .int k_t_reached, .ref a_t_order, .ref a_t_way, .ref a_t_tried, .int k_t_acts, .int k_t_next, .ref a_t_row, .ref a_t_lids, .ref a_t_shown, .int k_t_seen, .ref a_t_seenKnot, .ref a_t_seenLid, .ref a_t_seenHad, .long k_t_seed, .ref a_t_isKept, .ref a_t_kept])), (a_t_now, .inl (cI, 100, .inl f_t_now))] → va_S A s.heap H locs → lv_has ls 3 [(0, .ref a_t), (1, .int v4_1), (2, .int v4_2)] → mX11_edgesReached_L4 k_t_reached f_t_now n4 v4_1 v4_2 = some R → W p l e { frames := 1, cells := 0, slots := 0, locals := 22 } s m ([.ref a_t] : List Value).toArray below meth c H locs 0 0 (kQ below G [(a_t, .inr (8, [.int k_t_knots, .ref a_t_now, .int k_t_readKnots, .ref a_t_text, .int k_t_length, .ref a_t_covers, .int k_t_reached, .ref a_t_order, .ref a_t_way, .ref a_t_tried, .int k_t_acts, .int k_t_next, .ref a_t_row, .ref a_t_lids, .ref a_t_shown, .int k_t_seen, .ref a_t_seenKnot, .ref a_t_seenLid, .ref a_t_seenHad, .long k_t_seed, .ref a_t_isKept, .ref a_t_kept])), (a_t_now, .inl (cI, 100, .inl f_t_now))] (some (.int R)) A ([.ref a_t] : List Value).toArray s) (F0 m 4 ls []) := by
    intro n4
    induction n4 with
    | zero => intro v4_1 v4_2 H locs ls hP hD hS hl hm; rw [mX11_edgesReached_L4] at hm; cases hm
    | succ n4 ih4 =>
      intro v4_1 v4_2 H locs ls hP hD hS hl hm
      rw [mX11_edgesReached_L4] at hm
      refine lv_iload_n hx hb dX11_edgesReached_4 rfl (lv_at hl 2 rfl) ?_
      refine lv_aload_n hx hb dX11_edgesReached_5 rfl (lv_at hl 0 rfl) ?_
      refine lv_iconst (v := 0) hx hb dX11_edgesReached_6 (by decide) ?_
      obtain ⟨r7, hc7, hm⟩ := kbind hm
      refine kcV0 (st1 := [.int r7, .int v4_2]) X hA (c_X11_many l G cI cZ cE a_t a_t_now a_t_text a_t_covers a_t_order a_t_way a_t_tried a_t_row a_t_lids a_t_shown a_t_seenKnot a_t_seenLid a_t_seenHad a_t_isKept a_t_kept k_t_knots k_t_readKnots k_t_length k_t_reached k_t_acts k_t_next k_t_seen k_t_seed f_t_now 0 r7 hc7) (cwV 1 hts gX11_edgesReached_X11_many rfl rfl rfl hd_X11_many ⟨Nat.le_of_ble_eq_true rfl, Nat.le_of_ble_eq_true rfl⟩) 0 8 rfl rfl hl.1 dX11_edgesReached_7 hP hD hS [0, 1] rfl rfl rfl [.int v4_2] rfl (Nat.le_of_ble_eq_true rfl) rfl ⟨Nat.zero_le _, Nat.zero_le _⟩ (fun H locs hP hD hS => ?_)
      refine lv_icmp_ge (tgt := 43) hx hb dX11_edgesReached_10 (by decide) (fun c10 => ?_) (fun c10 => ?_)
      · rw [if_pos c10] at hm
        refine lv_iload_n hx hb dX11_edgesReached_43 rfl (lv_at hl 1 rfl) ?_
        have hm := Option.some.inj hm
        subst hm
        exact k_iret (v := v4_1) X rfl dX11_edgesReached_44 hP hD hS
      · rw [if_neg c10] at hm
        refine lv_iload_n hx hb dX11_edgesReached_13 rfl (lv_at hl 1 rfl) ?_
        refine lv_aload_n hx hb dX11_edgesReached_14 rfl (lv_at hl 0 rfl) ?_
        refine va_get (D := G) (ci := 8) (v := .int k_t_reached) (C := RX11) (T := TX11) (N := 22) hx hb hts i_X11 hown hK hP 0 rfl rfl 6 (by decide) l_110 (fun _ h9 => h9) rfl dX11_edgesReached_15 ?_
        refine lv_aload_n hx hb dX11_edgesReached_18 rfl (lv_at hl 0 rfl) ?_
        refine lv_iconst (v := 0) hx hb dX11_edgesReached_19 (by decide) ?_
        refine lv_iload_n hx hb dX11_edgesReached_20 rfl (lv_at hl 2 rfl) ?_
        obtain ⟨r21, hc21, hm⟩ := kbind hm
        refine kcV0 (st1 := [.int r21, .int k_t_reached, .int v4_1]) X hA (c_X11_fromOf l G cI cZ cE a_t a_t_now a_t_text a_t_covers a_t_order a_t_way a_t_tried a_t_row a_t_lids a_t_shown a_t_seenKnot a_t_seenLid a_t_seenHad a_t_isKept a_t_kept k_t_knots k_t_readKnots k_t_length k_t_reached k_t_acts k_t_next k_t_seen k_t_seed f_t_now 0 v4_2 r21 hc21) (cwV 2 hts gX11_edgesReached_X11_fromOf rfl rfl rfl hd_X11_fromOf ⟨Nat.le_of_ble_eq_true rfl, Nat.le_of_ble_eq_true rfl⟩) 0 8 rfl rfl hl.1 dX11_edgesReached_21 hP hD hS [0, 1] rfl rfl rfl [.int k_t_reached, .int v4_1] rfl (Nat.le_of_ble_eq_true rfl) rfl ⟨Nat.zero_le _, Nat.zero_le _⟩ (fun H locs hP hD hS => ?_)
        refine kcS0 (st1 := [.int (bI (mX11_has k_t_reached r21)), .int v4_1]) X hA (c_X11_has l G cI cZ cE k_t_reached r21 _ rfl) (va_cwS 2 hts gX11_edgesReached_X11_has rfl rfl rfl hd_X11_has ⟨Nat.le_of_ble_eq_true rfl, Nat.le_of_ble_eq_true rfl⟩) hl.1 dX11_edgesReached_24 hP hD hS [] rfl rfl rfl [.int v4_1] rfl (Nat.le_of_ble_eq_true rfl) rfl ⟨Nat.zero_le _, Nat.zero_le _⟩ (fun H locs hP hD hS => ?_)
        refine lv_if_eq (tgt := 34) hx hb dX11_edgesReached_27 (by decide) (fun c27 => ?_) (fun c27 => ?_)
        · have c27 := kb0 c27
          rw [if_neg c27] at hm
          refine lv_iconst (v := 0) hx hb dX11_edgesReached_34 (by decide) ?_
          refine lv_iadd hx hb dX11_edgesReached_35 ?_
          refine lv_istore_n (lv' := [(1, .int (v4_1 + 0)), (0, .ref a_t), (2, .int v4_2)]) hx hb dX11_edgesReached_36 rfl hl (by decide) rfl (fun ls hl => ?_)
          refine lv_iinc (v := v4_2 + 1) (lv' := [(2, .int (v4_2 + 1)), (1, .int (v4_1 + 0)), (0, .ref a_t)]) hx hb dX11_edgesReached_37 hl (k := 2) rfl rfl (by decide) rfl (fun ls hl => ?_)
          refine lv_goto (tgt := 4) hx hb dX11_edgesReached_40 (by decide) ?_
          exact ih4 (v4_1 + 0) (v4_2 + 1) _ _ _ hP hD hS (lv_sub hl [2, 1, 0] rfl) hm
        · have c27 := kb1 c27
          rw [if_pos c27] at hm
          refine lv_iconst (v := 1) hx hb dX11_edgesReached_30 (by decide) ?_
          refine lv_goto (tgt := 35) hx hb dX11_edgesReached_31 (by decide) ?_
          refine lv_iadd hx hb dX11_edgesReached_35 ?_
          refine lv_istore_n (lv' := [(1, .int (v4_1 + 1)), (0, .ref a_t), (2, .int v4_2)]) hx hb dX11_edgesReached_36 rfl hl (by decide) rfl (fun ls hl => ?_)
          refine lv_iinc (v := v4_2 + 1) (lv' := [(2, .int (v4_2 + 1)), (1, .int (v4_1 + 1)), (0, .ref a_t)]) hx hb dX11_edgesReached_37 hl (k := 2) rfl rfl (by decide) rfl (fun ls hl => ?_)
          refine lv_goto (tgt := 4) hx hb dX11_edgesReached_40 (by decide) ?_
          exact ih4 (v4_1 + 1) (v4_2 + 1) _ _ _ hP hD hS (lv_sub hl [2, 1, 0] rfl) hm
  exact h4 kFU 0 0 _ _ _ hP hD hS (lv_sub hl [2, 1, 0] rfl) hm
theorem hd_X11_edgesReached : yX11_edgesReached.cls = RX11 ∧ yX11_edgesReached.cls ≠ "java/lang/invoke/MethodHandle" ∧ yX11_edgesReached.cls ≠ "java/lang/invoke/VarHandle" ∧ (parseMethodDescriptor yX11_edgesReached.desc).map (fun d => d.parameters.length) = some 0 := by decide +kernel
/-! CoverOrderModel count -/
set_option maxRecDepth 100000 in
set_option maxHeartbeats 4000000 in
theorem c_X11_count (l : Launch) (G : va_G) (cI cZ cE : ClassId) (a_t a_t_now a_t_text a_t_covers a_t_order a_t_way a_t_tried a_t_row a_t_lids a_t_shown a_t_seenKnot a_t_seenLid a_t_seenHad a_t_isKept a_t_kept : Nat) (k_t_knots : Int32) (k_t_readKnots : Int32) (k_t_length : Int32) (k_t_reached : Int32) (k_t_acts : Int32) (k_t_next : Int32) (k_t_seen : Int32) (k_t_seed : Int64) (f_t_now : Nat → Int32) (f_t_covers : Nat → Int32) (p1 : Int32) (R : Int32 × Int32 × (Nat → Int32)) (hm : mX11_count k_t_knots k_t_length k_t_reached k_t_acts k_t_seen f_t_now f_t_covers p1 = some R) : kM l yX11_count wsX11_count { frames := 3, cells := 0, slots := 0, locals := 77 } G cI cZ cE [.ref a_t, .int p1] [(a_t, .inr (8, [.int k_t_knots, .ref a_t_now, .int k_t_readKnots, .ref a_t_text, .int k_t_length, .ref a_t_covers, .int k_t_reached, .ref a_t_order, .ref a_t_way, .ref a_t_tried, .int k_t_acts, .int k_t_next, .ref a_t_row, .ref a_t_lids, .ref a_t_shown, .int k_t_seen, .ref a_t_seenKnot, .ref a_t_seenLid, .ref a_t_seenHad, .long k_t_seed, .ref a_t_isKept, .ref a_t_kept])), (a_t_now, .inl (cI, 100, .inl f_t_now)), (a_t_covers, .inl (cI, 8, .inl f_t_covers))] [(a_t, .inr (8, [.int k_t_knots, .ref a_t_now, .int k_t_readKnots, .ref a_t_text, .int k_t_length, .ref a_t_covers, .int R.2.1, .ref a_t_order, .ref a_t_way, .ref a_t_tried, .int k_t_acts, .int k_t_next, .ref a_t_row, .ref a_t_lids, .ref a_t_shown, .int k_t_seen, .ref a_t_seenKnot, .ref a_t_seenLid, .ref a_t_seenHad, .long k_t_seed, .ref a_t_isKept, .ref a_t_kept])), (a_t_now, .inl (cI, 100, .inl f_t_now)), (a_t_covers, .inl (cI, 8, .inl R.2.2))] (some (.int R.1)) := by
  refine kM_of cX11_count 2 (some .int) RX11 (by decide) rfl rfl (Nat.le_of_ble_eq_true rfl) ?_
  intro p e s m below meth c A ls X hA hP hD hS hl
  have hx := X.1.1
  have hb := X.1.2.1
  have hts := X.1.2.2.2.2
  have hown := X.1.2.2.2.1
  have hK := X.2.2.2.1
  have l_63 : (.fieldLink RX11 63 "CoverOrderModel" "length" "I" : Cond).before _ s = true := hts _ (List.mem_of_getElem? (i := 1) (by decide +kernel))
  have i_X11 : ∀ w ∈ u_ws RX11 TX11 22, w ∈ wsX11_count := k_in _ [51, 52, 53, 54, 55, 56, 57, 58, 59, 60, 61, 62, 63, 64, 65, 66, 67, 68, 69, 70, 71, 72] (by decide +kernel)
  have l_7 : (.fieldLink RX11 7 "CoverOrderModel" "knots" "I" : Cond).before _ s = true := hts _ (List.mem_of_getElem? (i := 2) (by decide +kernel))
  have l_110 : (.fieldLink RX11 110 "CoverOrderModel" "reached" "I" : Cond).before _ s = true := hts _ (List.mem_of_getElem? (i := 3) (by decide +kernel))
  have l_13 : (.fieldLink RX11 13 "CoverOrderModel" "now" "[I" : Cond).before _ s = true := hts _ (List.mem_of_getElem? (i := 4) (by decide +kernel))
  have l_96 : (.fieldLink RX11 96 "CoverOrderModel" "acts" "I" : Cond).before _ s = true := hts _ (List.mem_of_getElem? (i := 5) (by decide +kernel))
  have l_180 : (.fieldLink RX11 180 "CoverOrderModel" "seen" "I" : Cond).before _ s = true := hts _ (List.mem_of_getElem? (i := 6) (by decide +kernel))
  have hl : lv_has ls 2 [(0, .ref a_t), (1, .int p1)] := hl
  rw [mX11_count] at hm
  refine lv_aload_n hx hb dX11_count_0 rfl (lv_at hl 0 rfl) ?_
  refine lv_iconst (v := 0) hx hb dX11_count_1 (by decide) ?_
  obtain ⟨r2, hc2, hm⟩ := kbind hm
  refine kcV (ws1 := [(a_t, .inr (8, [.int k_t_knots, .ref a_t_now, .int k_t_readKnots, .ref a_t_text, .int k_t_length, .ref a_t_covers, .int r2.1, .ref a_t_order, .ref a_t_way, .ref a_t_tried, .int k_t_acts, .int k_t_next, .ref a_t_row, .ref a_t_lids, .ref a_t_shown, .int k_t_seen, .ref a_t_seenKnot, .ref a_t_seenLid, .ref a_t_seenHad, .long k_t_seed, .ref a_t_isKept, .ref a_t_kept])), (a_t_now, .inl (cI, 100, .inl f_t_now)), (a_t_covers, .inl (cI, 8, .inl r2.2))]) (st1 := []) X hA (c_X11_findCovers l G cI cZ cE a_t a_t_now a_t_text a_t_covers a_t_order a_t_way a_t_tried a_t_row a_t_lids a_t_shown a_t_seenKnot a_t_seenLid a_t_seenHad a_t_isKept a_t_kept k_t_knots k_t_readKnots k_t_length k_t_reached k_t_acts k_t_next k_t_seen k_t_seed f_t_now f_t_covers 0 r2 hc2) (cwV 1 hts gX11_count_X11_findCovers rfl rfl rfl hd_X11_findCovers ⟨Nat.le_of_ble_eq_true rfl, Nat.le_of_ble_eq_true rfl⟩) 0 8 rfl rfl hl.1 dX11_count_2 hP hD hS [0, 1, 2] rfl rfl rfl rfl rfl [] rfl (Nat.le_of_ble_eq_true rfl) rfl ⟨Nat.zero_le _, Nat.zero_le _⟩ (fun H locs hP hD hS => ?_)
  refine lv_iload_n hx hb dX11_count_5 rfl (lv_at hl 1 rfl) ?_
  rcases Classical.em (p1 = 0) with c6_0 | c6_0
  · rw [if_pos c6_0] at hm
    refine lv_tableIn (off := 54) (tgt := 60) hx hb dX11_count_6 (by rw [c6_0]; decide) (by rw [c6_0]; decide) (by rw [c6_0]; decide) (by decide) ?_
    refine lv_aload_n hx hb dX11_count_60 rfl (lv_at hl 0 rfl) ?_
    refine va_get (D := G) (ci := 8) (v := .int k_t_length) (C := RX11) (T := TX11) (N := 22) hx hb hts i_X11 hown hK hP 0 rfl rfl 4 (by decide) l_63 (fun _ h9 => h9) rfl dX11_count_61 ?_
    have hm := Option.some.inj hm
    subst hm
    exact k_iret (v := k_t_length) X rfl dX11_count_64 hP hD hS
  rw [if_neg c6_0] at hm
  rcases Classical.em (p1 = 1) with c6_1 | c6_1
  · rw [if_pos c6_1] at hm
    refine lv_tableIn (off := 59) (tgt := 65) hx hb dX11_count_6 (by rw [c6_1]; decide) (by rw [c6_1]; decide) (by rw [c6_1]; decide) (by decide) ?_
    refine lv_aload_n hx hb dX11_count_65 rfl (lv_at hl 0 rfl) ?_
    refine va_get (D := G) (ci := 8) (v := .int k_t_knots) (C := RX11) (T := TX11) (N := 22) hx hb hts i_X11 hown hK hP 0 rfl rfl 0 (by decide) l_7 (fun _ h9 => h9) rfl dX11_count_66 ?_
    have hm := Option.some.inj hm
    subst hm
    exact k_iret (v := k_t_knots) X rfl dX11_count_69 hP hD hS
  rw [if_neg c6_1] at hm
  rcases Classical.em (p1 = 2) with c6_2 | c6_2
  · rw [if_pos c6_2] at hm
    refine lv_tableIn (off := 64) (tgt := 70) hx hb dX11_count_6 (by rw [c6_2]; decide) (by rw [c6_2]; decide) (by rw [c6_2]; decide) (by decide) ?_
    refine lv_aload_n hx hb dX11_count_70 rfl (lv_at hl 0 rfl) ?_
    refine lv_iconst (v := 0) hx hb dX11_count_71 (by decide) ?_
    obtain ⟨r72, hc72, hm⟩ := kbind hm
    refine kcV0 (st1 := [.int r72]) X hA (c_X11_many l G cI cZ cE a_t a_t_now a_t_text a_t_covers a_t_order a_t_way a_t_tried a_t_row a_t_lids a_t_shown a_t_seenKnot a_t_seenLid a_t_seenHad a_t_isKept a_t_kept k_t_knots k_t_readKnots k_t_length r2.1 k_t_acts k_t_next k_t_seen k_t_seed f_t_now 0 r72 hc72) (cwV 1 hts gX11_count_X11_many rfl rfl rfl hd_X11_many ⟨Nat.le_of_ble_eq_true rfl, Nat.le_of_ble_eq_true rfl⟩) 0 8 rfl rfl hl.1 dX11_count_72 hP hD hS [0, 1] rfl rfl rfl [] rfl (Nat.le_of_ble_eq_true rfl) rfl ⟨Nat.zero_le _, Nat.zero_le _⟩ (fun H locs hP hD hS => ?_)
    have hm := Option.some.inj hm
    subst hm
    exact k_iret (v := r72) X rfl dX11_count_75 hP hD hS
  rw [if_neg c6_2] at hm
  rcases Classical.em (p1 = 3) with c6_3 | c6_3
  · rw [if_pos c6_3] at hm
    refine lv_tableIn (off := 70) (tgt := 76) hx hb dX11_count_6 (by rw [c6_3]; decide) (by rw [c6_3]; decide) (by rw [c6_3]; decide) (by decide) ?_
    refine lv_aload_n hx hb dX11_count_76 rfl (lv_at hl 0 rfl) ?_
    refine va_get (D := G) (ci := 8) (v := .int r2.1) (C := RX11) (T := TX11) (N := 22) hx hb hts i_X11 hown hK hP 0 rfl rfl 6 (by decide) l_110 (fun _ h9 => h9) rfl dX11_count_77 ?_
    obtain ⟨r80, hc80, hm⟩ := kbind hm
    refine kcS0 (st1 := [.int r80]) X hA (c_X11_ones l G cI cZ cE r2.1 r80 hc80) (va_cwS 1 hts gX11_count_X11_ones rfl rfl rfl hd_X11_ones ⟨Nat.le_of_ble_eq_true rfl, Nat.le_of_ble_eq_true rfl⟩) hl.1 dX11_count_80 hP hD hS [] rfl rfl rfl [] rfl (Nat.le_of_ble_eq_true rfl) rfl ⟨Nat.zero_le _, Nat.zero_le _⟩ (fun H locs hP hD hS => ?_)
    have hm := Option.some.inj hm
    subst hm
    exact k_iret (v := r80) X rfl dX11_count_83 hP hD hS
  rw [if_neg c6_3] at hm
  rcases Classical.em (p1 = 4) with c6_4 | c6_4
  · rw [if_pos c6_4] at hm
    refine lv_tableIn (off := 78) (tgt := 84) hx hb dX11_count_6 (by rw [c6_4]; decide) (by rw [c6_4]; decide) (by rw [c6_4]; decide) (by decide) ?_
    refine lv_aload_n hx hb dX11_count_84 rfl (lv_at hl 0 rfl) ?_
    obtain ⟨r85, hc85, hm⟩ := kbind hm
    refine kcV0 (st1 := [.int r85]) X hA (c_X11_depthsTogether l G cI cZ cE a_t a_t_now a_t_text a_t_covers a_t_order a_t_way a_t_tried a_t_row a_t_lids a_t_shown a_t_seenKnot a_t_seenLid a_t_seenHad a_t_isKept a_t_kept k_t_knots k_t_readKnots k_t_length r2.1 k_t_acts k_t_next k_t_seen k_t_seed r2.2 r85 hc85) (cwV 0 hts gX11_count_X11_depthsTogether rfl rfl rfl hd_X11_depthsTogether ⟨Nat.le_of_ble_eq_true rfl, Nat.le_of_ble_eq_true rfl⟩) 0 8 rfl rfl hl.1 dX11_count_85 hP hD hS [0, 2] rfl rfl rfl [] rfl (Nat.le_of_ble_eq_true rfl) rfl ⟨Nat.zero_le _, Nat.zero_le _⟩ (fun H locs hP hD hS => ?_)
    have hm := Option.some.inj hm
    subst hm
    exact k_iret (v := r85) X rfl dX11_count_88 hP hD hS
  rw [if_neg c6_4] at hm
  rcases Classical.em (p1 = 5) with c6_5 | c6_5
  · rw [if_pos c6_5] at hm
    refine lv_tableIn (off := 83) (tgt := 89) hx hb dX11_count_6 (by rw [c6_5]; decide) (by rw [c6_5]; decide) (by rw [c6_5]; decide) (by decide) ?_
    refine lv_aload_n hx hb dX11_count_89 rfl (lv_at hl 0 rfl) ?_
    obtain ⟨r90, hc90, hm⟩ := kbind hm
    refine kcV0 (st1 := [.int r90]) X hA (c_X11_greatestDepth l G cI cZ cE a_t a_t_now a_t_text a_t_covers a_t_order a_t_way a_t_tried a_t_row a_t_lids a_t_shown a_t_seenKnot a_t_seenLid a_t_seenHad a_t_isKept a_t_kept k_t_knots k_t_readKnots k_t_length r2.1 k_t_acts k_t_next k_t_seen k_t_seed r2.2 r90 hc90) (cwV 0 hts gX11_count_X11_greatestDepth rfl rfl rfl hd_X11_greatestDepth ⟨Nat.le_of_ble_eq_true rfl, Nat.le_of_ble_eq_true rfl⟩) 0 8 rfl rfl hl.1 dX11_count_90 hP hD hS [0, 2] rfl rfl rfl [] rfl (Nat.le_of_ble_eq_true rfl) rfl ⟨Nat.zero_le _, Nat.zero_le _⟩ (fun H locs hP hD hS => ?_)
    have hm := Option.some.inj hm
    subst hm
    exact k_iret (v := r90) X rfl dX11_count_93 hP hD hS
  rw [if_neg c6_5] at hm
  rcases Classical.em (p1 = 6) with c6_6 | c6_6
  · rw [if_pos c6_6] at hm
    refine lv_tableIn (off := 88) (tgt := 94) hx hb dX11_count_6 (by rw [c6_6]; decide) (by rw [c6_6]; decide) (by rw [c6_6]; decide) (by decide) ?_
    refine lv_aload_n hx hb dX11_count_94 rfl (lv_at hl 0 rfl) ?_
    refine va_get (D := G) (ci := 8) (v := .ref a_t_now) (C := RX11) (T := TX11) (N := 22) hx hb hts i_X11 hown hK hP 0 rfl rfl 1 (by decide) l_13 (fun _ h9 => h9) rfl dX11_count_95 ?_
    refine lv_iconst (v := 1) hx hb dX11_count_98 (by decide) ?_
    refine va_iald hx hb hK hP 1 0 rfl rfl (kin_ok (by decide)) dX11_count_99 ?_
    have hm := Option.some.inj hm
    subst hm
    exact k_iret (v := f_t_now (Int32.toNatClampNeg 1)) X rfl dX11_count_100 hP hD hS
  rw [if_neg c6_6] at hm
  rcases Classical.em (p1 = 7) with c6_7 | c6_7
  · rw [if_pos c6_7] at hm
    refine lv_tableIn (off := 95) (tgt := 101) hx hb dX11_count_6 (by rw [c6_7]; decide) (by rw [c6_7]; decide) (by rw [c6_7]; decide) (by decide) ?_
    refine lv_aload_n hx hb dX11_count_101 rfl (lv_at hl 0 rfl) ?_
    obtain ⟨r102, hc102, hm⟩ := kbind hm
    refine kcV0 (st1 := [.int r102]) X hA (c_X11_edgesReached l G cI cZ cE a_t a_t_now a_t_text a_t_covers a_t_order a_t_way a_t_tried a_t_row a_t_lids a_t_shown a_t_seenKnot a_t_seenLid a_t_seenHad a_t_isKept a_t_kept k_t_knots k_t_readKnots k_t_length r2.1 k_t_acts k_t_next k_t_seen k_t_seed f_t_now r102 hc102) (cwV 0 hts gX11_count_X11_edgesReached rfl rfl rfl hd_X11_edgesReached ⟨Nat.le_of_ble_eq_true rfl, Nat.le_of_ble_eq_true rfl⟩) 0 8 rfl rfl hl.1 dX11_count_102 hP hD hS [0, 1] rfl rfl rfl [] rfl (Nat.le_of_ble_eq_true rfl) rfl ⟨Nat.zero_le _, Nat.zero_le _⟩ (fun H locs hP hD hS => ?_)
    have hm := Option.some.inj hm
    subst hm
    exact k_iret (v := r102) X rfl dX11_count_105 hP hD hS
  rw [if_neg c6_7] at hm
  rcases Classical.em (p1 = 8) with c6_8 | c6_8
  · rw [if_pos c6_8] at hm
    refine lv_tableIn (off := 100) (tgt := 106) hx hb dX11_count_6 (by rw [c6_8]; decide) (by rw [c6_8]; decide) (by rw [c6_8]; decide) (by decide) ?_
    refine lv_aload_n hx hb dX11_count_106 rfl (lv_at hl 0 rfl) ?_
    refine va_get (D := G) (ci := 8) (v := .int k_t_acts) (C := RX11) (T := TX11) (N := 22) hx hb hts i_X11 hown hK hP 0 rfl rfl 10 (by decide) l_96 (fun _ h9 => h9) rfl dX11_count_107 ?_
    have hm := Option.some.inj hm
    subst hm
    exact k_iret (v := k_t_acts) X rfl dX11_count_110 hP hD hS
  rw [if_neg c6_8] at hm
  rcases Classical.em (p1 = 9) with c6_9 | c6_9
  · rw [if_pos c6_9] at hm
    refine lv_tableIn (off := 105) (tgt := 111) hx hb dX11_count_6 (by rw [c6_9]; decide) (by rw [c6_9]; decide) (by rw [c6_9]; decide) (by decide) ?_
    refine lv_aload_n hx hb dX11_count_111 rfl (lv_at hl 0 rfl) ?_
    refine va_get (D := G) (ci := 8) (v := .int k_t_seen) (C := RX11) (T := TX11) (N := 22) hx hb hts i_X11 hown hK hP 0 rfl rfl 15 (by decide) l_180 (fun _ h9 => h9) rfl dX11_count_112 ?_
    have hm := Option.some.inj hm
    subst hm
    exact k_iret (v := k_t_seen) X rfl dX11_count_115 hP hD hS
  rw [if_neg c6_9] at hm
  refine k_tableDef (tgt := 116) hx hb dX11_count_6 (by
    have z0 : Int32.toInt p1 ≠ 0 := fun h => c6_0 (Int32.toInt_inj.mp (h.trans (by decide)))
    have z1 : Int32.toInt p1 ≠ 1 := fun h => c6_1 (Int32.toInt_inj.mp (h.trans (by decide)))
    have z2 : Int32.toInt p1 ≠ 2 := fun h => c6_2 (Int32.toInt_inj.mp (h.trans (by decide)))
    have z3 : Int32.toInt p1 ≠ 3 := fun h => c6_3 (Int32.toInt_inj.mp (h.trans (by decide)))
    have z4 : Int32.toInt p1 ≠ 4 := fun h => c6_4 (Int32.toInt_inj.mp (h.trans (by decide)))
    have z5 : Int32.toInt p1 ≠ 5 := fun h => c6_5 (Int32.toInt_inj.mp (h.trans (by decide)))
    have z6 : Int32.toInt p1 ≠ 6 := fun h => c6_6 (Int32.toInt_inj.mp (h.trans (by decide)))
    have z7 : Int32.toInt p1 ≠ 7 := fun h => c6_7 (Int32.toInt_inj.mp (h.trans (by decide)))
    have z8 : Int32.toInt p1 ≠ 8 := fun h => c6_8 (Int32.toInt_inj.mp (h.trans (by decide)))
    have z9 : Int32.toInt p1 ≠ 9 := fun h => c6_9 (Int32.toInt_inj.mp (h.trans (by decide)))
    rcases (show Int32.toInt p1 < 0 ∨ 9 < Int32.toInt p1 by omega) with h | h
    · exact Or.inl h
    · exact Or.inr (Or.inl h)) (by decide) ?_
  refine lv_bipush (v := (-2)) hx hb dX11_count_116 (by decide) ?_
  have hm := Option.some.inj hm
  subst hm
  exact k_iret (v := (-2)) X rfl dX11_count_118 hP hD hS
theorem hd_X11_count : yX11_count.cls = RX11 ∧ yX11_count.cls ≠ "java/lang/invoke/MethodHandle" ∧ yX11_count.cls ≠ "java/lang/invoke/VarHandle" ∧ (parseMethodDescriptor yX11_count.desc).map (fun d => d.parameters.length) = some 1 := by decide +kernel
