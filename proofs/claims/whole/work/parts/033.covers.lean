/-! CoverOrder.Chances countReached -/
set_option maxRecDepth 100000 in
set_option maxHeartbeats 4000000 in
theorem c_X1_countReached (l : Launch) (G : va_G) (cI cZ cE : ClassId) (p0 : Int64) (p2 : Int32) (p3 : Int32) (R : Int32) (hm : mX1_countReached p0 p2 p3 = some R) : kM l yX1_countReached wsX1_countReached { frames := 3, cells := 0, slots := 0, locals := 67 } G cI cZ cE [.long p0, .int p2, .int p3] [] [] (some (.int R)) := by
  refine kM_of cX1_countReached 4 (some .int) RX1 (by decide) rfl rfl (Nat.le_of_ble_eq_true rfl) ?_
  intro p e s m below meth c A ls X hA hP hD hS hl
  have hx := X.1.1
  have hb := X.1.2.1
  have hts := X.1.2.2.2.2
  have hown := X.1.2.2.2.1
  have hK := X.2.2.2.1
  have hl : lv_has ls 4 [(0, .long p0), (2, .int p2), (3, .int p3)] := hl
  rw [mX1_countReached] at hm
  refine lv_lload_n hx hb dX1_countReached_0 rfl (lv_at hl 0 rfl) ?_
  refine lv_iload_n hx hb dX1_countReached_1 rfl (lv_at hl 1 rfl) ?_
  refine lv_iload_n hx hb dX1_countReached_2 rfl (lv_at hl 2 rfl) ?_
  refine kcS0 (st1 := [.long (mX5_withLine p0 p2 p3)]) X hA (c_X5_withLine l G cI cZ cE p0 p2 p3 _ rfl) (va_cwS 3 hts gX1_countReached_X5_withLine rfl rfl rfl hd_X5_withLine ⟨Nat.le_of_ble_eq_true rfl, Nat.le_of_ble_eq_true rfl⟩) hl.1 dX1_countReached_3 hP hD hS [] rfl rfl rfl [] rfl (Nat.le_of_ble_eq_true rfl) rfl ⟨Nat.zero_le _, Nat.zero_le _⟩ (fun H locs hP hD hS => ?_)
  refine lv_iconst (v := 0) hx hb dX1_countReached_6 (by decide) ?_
  obtain ⟨r7, hc7, hm⟩ := kbind hm
  refine kcS0 (st1 := [.int r7]) X hA (c_X5_reached l G cI cZ cE (mX5_withLine p0 p2 p3) 0 r7 hc7) (va_cwS 2 hts gX1_countReached_X5_reached rfl rfl rfl hd_X5_reached ⟨Nat.le_of_ble_eq_true rfl, Nat.le_of_ble_eq_true rfl⟩) hl.1 dX1_countReached_7 hP hD hS [] rfl rfl rfl [] rfl (Nat.le_of_ble_eq_true rfl) rfl ⟨Nat.zero_le _, Nat.zero_le _⟩ (fun H locs hP hD hS => ?_)
  refine kcS0 (st1 := [.int (mJ6_bitCount_0f7a4 r7)]) X hA (c_J6_bitCount_0f7a4 l G cI cZ cE r7 _ rfl) (va_cwS 1 hts gX1_countReached_J6_bitCount_0f7a4 rfl rfl rfl hd_J6_bitCount_0f7a4 ⟨Nat.le_of_ble_eq_true rfl, Nat.le_of_ble_eq_true rfl⟩) hl.1 dX1_countReached_10 hP hD hS [] rfl rfl rfl [] rfl (Nat.le_of_ble_eq_true rfl) rfl ⟨Nat.zero_le _, Nat.zero_le _⟩ (fun H locs hP hD hS => ?_)
  have hm := Option.some.inj hm
  subst hm
  exact k_iret (v := (mJ6_bitCount_0f7a4 r7)) X rfl dX1_countReached_13 hP hD hS
theorem hd_X1_countReached : yX1_countReached.cls ≠ "java/lang/invoke/MethodHandle" ∧ yX1_countReached.cls ≠ "java/lang/invoke/VarHandle" ∧ (parseMethodDescriptor yX1_countReached.desc).map (fun d => d.parameters.length) = some 3 := by decide +kernel
/-! CoverOrder.Chances factorial -/
set_option maxRecDepth 100000 in
set_option maxHeartbeats 4000000 in
theorem c_X1_factorial (l : Launch) (G : va_G) (cI cZ cE : ClassId) (p0 : Int32) (R : Int32) (hm : mX1_factorial p0 = some R) : kM l yX1_factorial wsX1_factorial { frames := 0, cells := 0, slots := 0, locals := 0 } G cI cZ cE [.int p0] [] [] (some (.int R)) := by
  refine kM_of cX1_factorial 3 (some .int) RX1 (by decide) rfl rfl (Nat.le_of_ble_eq_true rfl) ?_
  intro p e s m below meth c A ls X hA hP hD hS hl
  have hx := X.1.1
  have hb := X.1.2.1
  have hts := X.1.2.2.2.2
  have hown := X.1.2.2.2.1
  have hK := X.2.2.2.1
  have hl : lv_has ls 3 [(0, .int p0)] := hl
  rw [mX1_factorial] at hm
  refine lv_iconst (v := 1) hx hb dX1_factorial_0 (by decide) ?_
  refine lv_istore_n (lv' := [(1, .int 1), (0, .int p0)]) hx hb dX1_factorial_1 rfl hl (by decide) rfl (fun ls hl => ?_)
  refine lv_iconst (v := 2) hx hb dX1_factorial_2 (by decide) ?_
  refine lv_istore_n (lv' := [(2, .int 2), (1, .int 1), (0, .int p0)]) hx hb dX1_factorial_3 rfl hl (by decide) rfl (fun ls hl => ?_)
  have h4 : ∀ (n4 : Nat), ∀ (v4_1 : Int32) (v4_2 : Int32) (H : Heap) (locs : List Loc) (ls : Array Slot), va_P G vwCl [] H → va_D A [] → va_S A s.heap H locs → lv_has ls 3 [(0, .int p0), (1, .int v4_1), (2, .int v4_2)] → mX1_factorial_L4 p0 n4 v4_1 v4_2 = some R → W p l e { frames := 0, cells := 0, slots := 0, locals := 0 } s m ([.int p0] : List Value).toArray below meth c H locs 0 0 (kQ below G [] (some (.int R)) A ([.int p0] : List Value).toArray s) (F0 m 4 ls []) := by
    intro n4
    induction n4 with
    | zero => intro v4_1 v4_2 H locs ls hP hD hS hl hm; rw [mX1_factorial_L4] at hm; cases hm
    | succ n4 ih4 =>
      intro v4_1 v4_2 H locs ls hP hD hS hl hm
      rw [mX1_factorial_L4] at hm
      refine lv_iload_n hx hb dX1_factorial_4 rfl (lv_at hl 2 rfl) ?_
      refine lv_iload_n hx hb dX1_factorial_5 rfl (lv_at hl 0 rfl) ?_
      refine lv_icmp_gt (tgt := 19) hx hb dX1_factorial_6 (by decide) (fun c6 => ?_) (fun c6 => ?_)
      · rw [if_pos c6] at hm
        refine lv_iload_n hx hb dX1_factorial_19 rfl (lv_at hl 1 rfl) ?_
        have hm := Option.some.inj hm
        subst hm
        exact k_iret (v := v4_1) X rfl dX1_factorial_20 hP hD hS
      · rw [if_neg c6] at hm
        refine lv_iload_n hx hb dX1_factorial_9 rfl (lv_at hl 1 rfl) ?_
        refine lv_iload_n hx hb dX1_factorial_10 rfl (lv_at hl 2 rfl) ?_
        refine lv_imul hx hb dX1_factorial_11 ?_
        refine lv_istore_n (lv' := [(1, .int (v4_1 * v4_2)), (0, .int p0), (2, .int v4_2)]) hx hb dX1_factorial_12 rfl hl (by decide) rfl (fun ls hl => ?_)
        refine lv_iinc (v := v4_2 + 1) (lv' := [(2, .int (v4_2 + 1)), (1, .int (v4_1 * v4_2)), (0, .int p0)]) hx hb dX1_factorial_13 hl (k := 2) rfl rfl (by decide) rfl (fun ls hl => ?_)
        refine lv_goto (tgt := 4) hx hb dX1_factorial_16 (by decide) ?_
        exact ih4 (v4_1 * v4_2) (v4_2 + 1) _ _ _ hP hD hS (lv_sub hl [2, 1, 0] rfl) hm
  exact h4 kFU 1 2 _ _ _ hP hD hS (lv_sub hl [2, 1, 0] rfl) hm
theorem hd_X1_factorial : yX1_factorial.cls ≠ "java/lang/invoke/MethodHandle" ∧ yX1_factorial.cls ≠ "java/lang/invoke/VarHandle" ∧ (parseMethodDescriptor yX1_factorial.desc).map (fun d => d.parameters.length) = some 1 := by decide +kernel
/-! CoverOrder.Chances gainInAllOrders -/
set_option maxRecDepth 100000 in
set_option maxHeartbeats 4000000 in
theorem c_X1_gainInAllOrders (l : Launch) (G : va_G) (cI cZ cE : ClassId) (p0 : Int64) (p2 : Int32) (p3 : Int32) (R : Int32) (hm : mX1_gainInAllOrders p0 p2 p3 = some R) : kM l yX1_gainInAllOrders wsX1_gainInAllOrders { frames := 4, cells := 0, slots := 0, locals := 90 } G cI cZ cE [.long p0, .int p2, .int p3] [] [] (some (.int R)) := by
  refine kM_of cX1_gainInAllOrders 11 (some .int) RX1 (by decide) rfl rfl (Nat.le_of_ble_eq_true rfl) ?_
  intro p e s m below meth c A ls X hA hP hD hS hl
  have hx := X.1.1
  have hb := X.1.2.1
  have hts := X.1.2.2.2.2
  have hown := X.1.2.2.2.1
  have hK := X.2.2.2.1
  have hl : lv_has ls 11 [(0, .long p0), (2, .int p2), (3, .int p3)] := hl
  rw [mX1_gainInAllOrders] at hm
  refine lv_lload_n hx hb dX1_gainInAllOrders_0 rfl (lv_at hl 0 rfl) ?_
  refine lv_iload_n hx hb dX1_gainInAllOrders_1 rfl (lv_at hl 1 rfl) ?_
  refine kcS0 (st1 := [.int (mX5_line p0 p2)]) X hA (c_X5_line l G cI cZ cE p0 p2 _ rfl) (va_cwS 2 hts gX1_gainInAllOrders_X5_line rfl rfl rfl hd_X5_line ⟨Nat.le_of_ble_eq_true rfl, Nat.le_of_ble_eq_true rfl⟩) hl.1 dX1_gainInAllOrders_2 hP hD hS [] rfl rfl rfl [] rfl (Nat.le_of_ble_eq_true rfl) rfl ⟨Nat.zero_le _, Nat.zero_le _⟩ (fun H locs hP hD hS => ?_)
  refine lv_istore (lv' := [(4, .int (mX5_line p0 p2)), (0, .long p0), (2, .int p2), (3, .int p3)]) hx hb dX1_gainInAllOrders_5 hl (by decide) rfl (fun ls hl => ?_)
  refine lv_iload hx hb dX1_gainInAllOrders_7 (lv_at hl 0 rfl) ?_
  refine lv_iload_n hx hb dX1_gainInAllOrders_9 rfl (lv_at hl 3 rfl) ?_
  refine kcS0 (st1 := [.int (mX5_only p3), .int (mX5_line p0 p2)]) X hA (c_X5_only l G cI cZ cE p3 _ rfl) (va_cwS 1 hts gX1_gainInAllOrders_X5_only rfl rfl rfl hd_X5_only ⟨Nat.le_of_ble_eq_true rfl, Nat.le_of_ble_eq_true rfl⟩) hl.1 dX1_gainInAllOrders_10 hP hD hS [] rfl rfl rfl [.int (mX5_line p0 p2)] rfl (Nat.le_of_ble_eq_true rfl) rfl ⟨Nat.zero_le _, Nat.zero_le _⟩ (fun H locs hP hD hS => ?_)
  refine lv_iconst (v := (-1)) hx hb dX1_gainInAllOrders_13 (by decide) ?_
  refine lv_ixor hx hb dX1_gainInAllOrders_14 ?_
  refine lv_iand hx hb dX1_gainInAllOrders_15 ?_
  refine lv_istore (lv' := [(5, .int ((mX5_line p0 p2) &&& ((mX5_only p3) ^^^ (-1)))), (4, .int (mX5_line p0 p2)), (0, .long p0), (2, .int p2), (3, .int p3)]) hx hb dX1_gainInAllOrders_16 hl (by decide) rfl (fun ls hl => ?_)
  refine lv_iconst (v := 0) hx hb dX1_gainInAllOrders_18 (by decide) ?_
  refine lv_istore (lv' := [(6, .int 0), (5, .int ((mX5_line p0 p2) &&& ((mX5_only p3) ^^^ (-1)))), (4, .int (mX5_line p0 p2)), (0, .long p0), (2, .int p2), (3, .int p3)]) hx hb dX1_gainInAllOrders_19 hl (by decide) rfl (fun ls hl => ?_)
  refine lv_iconst (v := 0) hx hb dX1_gainInAllOrders_21 (by decide) ?_
  refine lv_istore (lv' := [(7, .int 0), (6, .int 0), (5, .int ((mX5_line p0 p2) &&& ((mX5_only p3) ^^^ (-1)))), (4, .int (mX5_line p0 p2)), (0, .long p0), (2, .int p2), (3, .int p3)]) hx hb dX1_gainInAllOrders_22 hl (by decide) rfl (fun ls hl => ?_)
  have h24 : ∀ (n24 : Nat), ∀ (v24_6 : Int32) (v24_7 : Int32) (H : Heap) (locs : List Loc) (ls : Array Slot), va_P G vwCl [] H → va_D A [] → va_S A s.heap H locs → lv_has ls 11 [(0, .long p0), (2, .int p2), (3, .int p3), (5, .int ((mX5_line p0 p2) &&& ((mX5_only p3) ^^^ (-1)))), (6, .int v24_6), (7, .int v24_7)] → mX1_gainInAllOrders_L24 p0 p2 p3 n24 v24_6 v24_7 = some R → W p l e { frames := 4, cells := 0, slots := 0, locals := 90 } s m ([.long p0, .int p2, .int p3] : List Value).toArray below meth c H locs 0 0 (kQ below G [] (some (.int R)) A ([.long p0, .int p2, .int p3] : List Value).toArray s) (F0 m 24 ls []) := by
    intro n24
    induction n24 with
    | zero => intro v24_6 v24_7 H locs ls hP hD hS hl hm; rw [mX1_gainInAllOrders_L24] at hm; cases hm
    | succ n24 ih24 =>
      intro v24_6 v24_7 H locs ls hP hD hS hl hm
      rw [mX1_gainInAllOrders_L24] at hm
      refine lv_iload hx hb dX1_gainInAllOrders_24 (lv_at hl 5 rfl) ?_
      refine lv_iload hx hb dX1_gainInAllOrders_26 (lv_at hl 3 rfl) ?_
      refine lv_icmp_gt (tgt := 105) hx hb dX1_gainInAllOrders_28 (by decide) (fun c28 => ?_) (fun c28 => ?_)
      · rw [if_pos c28] at hm
        refine lv_iload hx hb dX1_gainInAllOrders_105 (lv_at hl 4 rfl) ?_
        have hm := Option.some.inj hm
        subst hm
        exact k_iret (v := v24_6) X rfl dX1_gainInAllOrders_107 hP hD hS
      · rw [if_neg c28] at hm
        refine lv_iload hx hb dX1_gainInAllOrders_31 (lv_at hl 5 rfl) ?_
        refine lv_iload hx hb dX1_gainInAllOrders_33 (lv_at hl 3 rfl) ?_
        refine lv_iconst (v := (-1)) hx hb dX1_gainInAllOrders_35 (by decide) ?_
        refine lv_ixor hx hb dX1_gainInAllOrders_36 ?_
        refine lv_iand hx hb dX1_gainInAllOrders_37 ?_
        refine lv_if_ne (tgt := 99) hx hb dX1_gainInAllOrders_38 (by decide) (fun c38 => ?_) (fun c38 => ?_)
        · rw [if_neg c38] at hm
          refine lv_iinc (v := v24_7 + 1) (lv' := [(7, .int (v24_7 + 1)), (0, .long p0), (2, .int p2), (3, .int p3), (5, .int ((mX5_line p0 p2) &&& ((mX5_only p3) ^^^ (-1)))), (6, .int v24_6)]) hx hb dX1_gainInAllOrders_99 hl (k := 5) rfl rfl (by decide) rfl (fun ls hl => ?_)
          refine lv_goto (tgt := 24) hx hb dX1_gainInAllOrders_102 (by decide) ?_
          exact ih24 v24_6 (v24_7 + 1) _ _ _ hP hD hS (lv_sub hl [1, 2, 3, 4, 5, 0] rfl) hm
        · rw [if_pos c38] at hm
          refine lv_lload_n hx hb dX1_gainInAllOrders_41 rfl (lv_at hl 0 rfl) ?_
          refine lv_iload_n hx hb dX1_gainInAllOrders_42 rfl (lv_at hl 1 rfl) ?_
          refine lv_iload hx hb dX1_gainInAllOrders_43 (lv_at hl 5 rfl) ?_
          refine lv_iload_n hx hb dX1_gainInAllOrders_45 rfl (lv_at hl 2 rfl) ?_
          refine kcS0 (st1 := [.int (mX5_only p3), .int v24_7, .int p2, .long p0]) X hA (c_X5_only l G cI cZ cE p3 _ rfl) (va_cwS 1 hts gX1_gainInAllOrders_X5_only rfl rfl rfl hd_X5_only ⟨Nat.le_of_ble_eq_true rfl, Nat.le_of_ble_eq_true rfl⟩) hl.1 dX1_gainInAllOrders_46 hP hD hS [] rfl rfl rfl [.int v24_7, .int p2, .long p0] rfl (Nat.le_of_ble_eq_true rfl) rfl ⟨Nat.zero_le _, Nat.zero_le _⟩ (fun H locs hP hD hS => ?_)
          refine lv_ior hx hb dX1_gainInAllOrders_49 ?_
          obtain ⟨r50, hc50, hm⟩ := kbind hm
          refine kcS0 (st1 := [.int r50]) X hA (c_X1_countReached l G cI cZ cE p0 p2 (v24_7 ||| (mX5_only p3)) r50 hc50) (va_cwS 3 hts gX1_gainInAllOrders_X1_countReached rfl rfl rfl hd_X1_countReached ⟨Nat.le_of_ble_eq_true rfl, Nat.le_of_ble_eq_true rfl⟩) hl.1 dX1_gainInAllOrders_50 hP hD hS [] rfl rfl rfl [] rfl (Nat.le_of_ble_eq_true rfl) rfl ⟨Nat.zero_le _, Nat.zero_le _⟩ (fun H locs hP hD hS => ?_)
          refine lv_lload_n hx hb dX1_gainInAllOrders_53 rfl (lv_at hl 0 rfl) ?_
          refine lv_iload_n hx hb dX1_gainInAllOrders_54 rfl (lv_at hl 1 rfl) ?_
          refine lv_iload hx hb dX1_gainInAllOrders_55 (lv_at hl 5 rfl) ?_
          obtain ⟨r57, hc57, hm⟩ := kbind hm
          refine kcS0 (st1 := [.int r57, .int r50]) X hA (c_X1_countReached l G cI cZ cE p0 p2 v24_7 r57 hc57) (va_cwS 3 hts gX1_gainInAllOrders_X1_countReached rfl rfl rfl hd_X1_countReached ⟨Nat.le_of_ble_eq_true rfl, Nat.le_of_ble_eq_true rfl⟩) hl.1 dX1_gainInAllOrders_57 hP hD hS [] rfl rfl rfl [.int r50] rfl (Nat.le_of_ble_eq_true rfl) rfl ⟨Nat.zero_le _, Nat.zero_le _⟩ (fun H locs hP hD hS => ?_)
          refine lv_isub hx hb dX1_gainInAllOrders_60 ?_
          refine lv_istore (lv' := [(8, .int (r50 - r57)), (0, .long p0), (2, .int p2), (3, .int p3), (5, .int ((mX5_line p0 p2) &&& ((mX5_only p3) ^^^ (-1)))), (6, .int v24_6), (7, .int v24_7)]) hx hb dX1_gainInAllOrders_61 hl (by decide) rfl (fun ls hl => ?_)
          refine lv_iload hx hb dX1_gainInAllOrders_63 (lv_at hl 6 rfl) ?_
          refine kcS0 (st1 := [.int (mJ6_bitCount_0f7a4 v24_7)]) X hA (c_J6_bitCount_0f7a4 l G cI cZ cE v24_7 _ rfl) (va_cwS 1 hts gX1_gainInAllOrders_J6_bitCount_0f7a4 rfl rfl rfl hd_J6_bitCount_0f7a4 ⟨Nat.le_of_ble_eq_true rfl, Nat.le_of_ble_eq_true rfl⟩) hl.1 dX1_gainInAllOrders_65 hP hD hS [] rfl rfl rfl [] rfl (Nat.le_of_ble_eq_true rfl) rfl ⟨Nat.zero_le _, Nat.zero_le _⟩ (fun H locs hP hD hS => ?_)
          refine lv_istore (lv' := [(9, .int (mJ6_bitCount_0f7a4 v24_7)), (8, .int (r50 - r57)), (0, .long p0), (2, .int p2), (3, .int p3), (5, .int ((mX5_line p0 p2) &&& ((mX5_only p3) ^^^ (-1)))), (6, .int v24_6), (7, .int v24_7)]) hx hb dX1_gainInAllOrders_68 hl (by decide) rfl (fun ls hl => ?_)
          refine lv_iload hx hb dX1_gainInAllOrders_70 (lv_at hl 5 rfl) ?_
          refine kcS0 (st1 := [.int (mJ6_bitCount_0f7a4 ((mX5_line p0 p2) &&& ((mX5_only p3) ^^^ (-1))))]) X hA (c_J6_bitCount_0f7a4 l G cI cZ cE ((mX5_line p0 p2) &&& ((mX5_only p3) ^^^ (-1))) _ rfl) (va_cwS 1 hts gX1_gainInAllOrders_J6_bitCount_0f7a4 rfl rfl rfl hd_J6_bitCount_0f7a4 ⟨Nat.le_of_ble_eq_true rfl, Nat.le_of_ble_eq_true rfl⟩) hl.1 dX1_gainInAllOrders_72 hP hD hS [] rfl rfl rfl [] rfl (Nat.le_of_ble_eq_true rfl) rfl ⟨Nat.zero_le _, Nat.zero_le _⟩ (fun H locs hP hD hS => ?_)
          refine lv_iload hx hb dX1_gainInAllOrders_75 (lv_at hl 0 rfl) ?_
          refine lv_isub hx hb dX1_gainInAllOrders_77 ?_
          refine lv_istore (lv' := [(10, .int ((mJ6_bitCount_0f7a4 ((mX5_line p0 p2) &&& ((mX5_only p3) ^^^ (-1)))) - (mJ6_bitCount_0f7a4 v24_7))), (9, .int (mJ6_bitCount_0f7a4 v24_7)), (8, .int (r50 - r57)), (0, .long p0), (2, .int p2), (3, .int p3), (5, .int ((mX5_line p0 p2) &&& ((mX5_only p3) ^^^ (-1)))), (6, .int v24_6), (7, .int v24_7)]) hx hb dX1_gainInAllOrders_78 hl (by decide) rfl (fun ls hl => ?_)
          refine lv_iload hx hb dX1_gainInAllOrders_80 (lv_at hl 7 rfl) ?_
          refine lv_iload hx hb dX1_gainInAllOrders_82 (lv_at hl 2 rfl) ?_
          refine lv_iload hx hb dX1_gainInAllOrders_84 (lv_at hl 1 rfl) ?_
          obtain ⟨r86, hc86, hm⟩ := kbind hm
          refine kcS0 (st1 := [.int r86, .int (r50 - r57), .int v24_6]) X hA (c_X1_factorial l G cI cZ cE (mJ6_bitCount_0f7a4 v24_7) r86 hc86) (va_cwS 1 hts gX1_gainInAllOrders_X1_factorial rfl rfl rfl hd_X1_factorial ⟨Nat.le_of_ble_eq_true rfl, Nat.le_of_ble_eq_true rfl⟩) hl.1 dX1_gainInAllOrders_86 hP hD hS [] rfl rfl rfl [.int (r50 - r57), .int v24_6] rfl (Nat.le_of_ble_eq_true rfl) rfl ⟨Nat.zero_le _, Nat.zero_le _⟩ (fun H locs hP hD hS => ?_)
          refine lv_imul hx hb dX1_gainInAllOrders_89 ?_
          refine lv_iload hx hb dX1_gainInAllOrders_90 (lv_at hl 0 rfl) ?_
          obtain ⟨r92, hc92, hm⟩ := kbind hm
          refine kcS0 (st1 := [.int r92, .int ((r50 - r57) * r86), .int v24_6]) X hA (c_X1_factorial l G cI cZ cE ((mJ6_bitCount_0f7a4 ((mX5_line p0 p2) &&& ((mX5_only p3) ^^^ (-1)))) - (mJ6_bitCount_0f7a4 v24_7)) r92 hc92) (va_cwS 1 hts gX1_gainInAllOrders_X1_factorial rfl rfl rfl hd_X1_factorial ⟨Nat.le_of_ble_eq_true rfl, Nat.le_of_ble_eq_true rfl⟩) hl.1 dX1_gainInAllOrders_92 hP hD hS [] rfl rfl rfl [.int ((r50 - r57) * r86), .int v24_6] rfl (Nat.le_of_ble_eq_true rfl) rfl ⟨Nat.zero_le _, Nat.zero_le _⟩ (fun H locs hP hD hS => ?_)
          refine lv_imul hx hb dX1_gainInAllOrders_95 ?_
          refine lv_iadd hx hb dX1_gainInAllOrders_96 ?_
          refine lv_istore (lv' := [(6, .int (v24_6 + (((r50 - r57) * r86) * r92))), (10, .int ((mJ6_bitCount_0f7a4 ((mX5_line p0 p2) &&& ((mX5_only p3) ^^^ (-1)))) - (mJ6_bitCount_0f7a4 v24_7))), (9, .int (mJ6_bitCount_0f7a4 v24_7)), (8, .int (r50 - r57)), (0, .long p0), (2, .int p2), (3, .int p3), (5, .int ((mX5_line p0 p2) &&& ((mX5_only p3) ^^^ (-1)))), (7, .int v24_7)]) hx hb dX1_gainInAllOrders_97 hl (by decide) rfl (fun ls hl => ?_)
          refine lv_iinc (v := v24_7 + 1) (lv' := [(7, .int (v24_7 + 1)), (6, .int (v24_6 + (((r50 - r57) * r86) * r92))), (10, .int ((mJ6_bitCount_0f7a4 ((mX5_line p0 p2) &&& ((mX5_only p3) ^^^ (-1)))) - (mJ6_bitCount_0f7a4 v24_7))), (9, .int (mJ6_bitCount_0f7a4 v24_7)), (8, .int (r50 - r57)), (0, .long p0), (2, .int p2), (3, .int p3), (5, .int ((mX5_line p0 p2) &&& ((mX5_only p3) ^^^ (-1))))]) hx hb dX1_gainInAllOrders_99 hl (k := 8) rfl rfl (by decide) rfl (fun ls hl => ?_)
          refine lv_goto (tgt := 24) hx hb dX1_gainInAllOrders_102 (by decide) ?_
          exact ih24 (v24_6 + (((r50 - r57) * r86) * r92)) (v24_7 + 1) _ _ _ hP hD hS (lv_sub hl [5, 6, 7, 8, 1, 0] rfl) hm
  exact h24 kFU 0 0 _ _ _ hP hD hS (lv_sub hl [4, 5, 6, 2, 1, 0] rfl) hm
theorem hd_X1_gainInAllOrders : yX1_gainInAllOrders.cls ≠ "java/lang/invoke/MethodHandle" ∧ yX1_gainInAllOrders.cls ≠ "java/lang/invoke/VarHandle" ∧ (parseMethodDescriptor yX1_gainInAllOrders.desc).map (fun d => d.parameters.length) = some 3 := by decide +kernel
/-! CoverOrder.Chances power -/
set_option maxRecDepth 100000 in
set_option maxHeartbeats 4000000 in
theorem c_X1_power (l : Launch) (G : va_G) (cI cZ cE : ClassId) (p0 : Int32) (p1 : Int32) (R : Int32) (hm : mX1_power p0 p1 = some R) : kM l yX1_power wsX1_power { frames := 0, cells := 0, slots := 0, locals := 0 } G cI cZ cE [.int p0, .int p1] [] [] (some (.int R)) := by
  refine kM_of cX1_power 4 (some .int) RX1 (by decide) rfl rfl (Nat.le_of_ble_eq_true rfl) ?_
  intro p e s m below meth c A ls X hA hP hD hS hl
  have hx := X.1.1
  have hb := X.1.2.1
  have hts := X.1.2.2.2.2
  have hown := X.1.2.2.2.1
  have hK := X.2.2.2.1
  have hl : lv_has ls 4 [(0, .int p0), (1, .int p1)] := hl
  rw [mX1_power] at hm
  refine lv_iconst (v := 1) hx hb dX1_power_0 (by decide) ?_
  refine lv_istore_n (lv' := [(2, .int 1), (0, .int p0), (1, .int p1)]) hx hb dX1_power_1 rfl hl (by decide) rfl (fun ls hl => ?_)
  refine lv_iconst (v := 0) hx hb dX1_power_2 (by decide) ?_
  refine lv_istore_n (lv' := [(3, .int 0), (2, .int 1), (0, .int p0), (1, .int p1)]) hx hb dX1_power_3 rfl hl (by decide) rfl (fun ls hl => ?_)
  have h4 : ∀ (n4 : Nat), ∀ (v4_2 : Int32) (v4_3 : Int32) (H : Heap) (locs : List Loc) (ls : Array Slot), va_P G vwCl [] H → va_D A [] → va_S A s.heap H locs → lv_has ls 4 [(0, .int p0), (1, .int p1), (2, .int v4_2), (3, .int v4_3)] → mX1_power_L4 p0 p1 n4 v4_2 v4_3 = some R → W p l e { frames := 0, cells := 0, slots := 0, locals := 0 } s m ([.int p0, .int p1] : List Value).toArray below meth c H locs 0 0 (kQ below G [] (some (.int R)) A ([.int p0, .int p1] : List Value).toArray s) (F0 m 4 ls []) := by
    intro n4
    induction n4 with
    | zero => intro v4_2 v4_3 H locs ls hP hD hS hl hm; rw [mX1_power_L4] at hm; cases hm
    | succ n4 ih4 =>
      intro v4_2 v4_3 H locs ls hP hD hS hl hm
      rw [mX1_power_L4] at hm
      refine lv_iload_n hx hb dX1_power_4 rfl (lv_at hl 3 rfl) ?_
      refine lv_iload_n hx hb dX1_power_5 rfl (lv_at hl 1 rfl) ?_
      refine lv_icmp_ge (tgt := 19) hx hb dX1_power_6 (by decide) (fun c6 => ?_) (fun c6 => ?_)
      · rw [if_pos c6] at hm
        refine lv_iload_n hx hb dX1_power_19 rfl (lv_at hl 2 rfl) ?_
        have hm := Option.some.inj hm
        subst hm
        exact k_iret (v := v4_2) X rfl dX1_power_20 hP hD hS
      · rw [if_neg c6] at hm
        refine lv_iload_n hx hb dX1_power_9 rfl (lv_at hl 2 rfl) ?_
        refine lv_iload_n hx hb dX1_power_10 rfl (lv_at hl 0 rfl) ?_
        refine lv_imul hx hb dX1_power_11 ?_
        refine lv_istore_n (lv' := [(2, .int (v4_2 * p0)), (0, .int p0), (1, .int p1), (3, .int v4_3)]) hx hb dX1_power_12 rfl hl (by decide) rfl (fun ls hl => ?_)
        refine lv_iinc (v := v4_3 + 1) (lv' := [(3, .int (v4_3 + 1)), (2, .int (v4_2 * p0)), (0, .int p0), (1, .int p1)]) hx hb dX1_power_13 hl (k := 3) rfl rfl (by decide) rfl (fun ls hl => ?_)
        refine lv_goto (tgt := 4) hx hb dX1_power_16 (by decide) ?_
        exact ih4 (v4_2 * p0) (v4_3 + 1) _ _ _ hP hD hS (lv_sub hl [2, 3, 1, 0] rfl) hm
  exact h4 kFU 1 0 _ _ _ hP hD hS (lv_sub hl [2, 3, 1, 0] rfl) hm
theorem hd_X1_power : yX1_power.cls ≠ "java/lang/invoke/MethodHandle" ∧ yX1_power.cls ≠ "java/lang/invoke/VarHandle" ∧ (parseMethodDescriptor yX1_power.desc).map (fun d => d.parameters.length) = some 2 := by decide +kernel
/-! CoverOrder.Chances weightOfReaching -/
set_option maxRecDepth 100000 in
set_option maxHeartbeats 4000000 in
theorem c_X1_weightOfReaching (l : Launch) (G : va_G) (cI cZ cE : ClassId) (p0 : Int64) (p2 : Int32) (p3 : Int32) (p4 : Int32) (R : Int32) (hm : mX1_weightOfReaching p0 p2 p3 p4 = some R) : kM l yX1_weightOfReaching wsX1_weightOfReaching { frames := 4, cells := 0, slots := 0, locals := 90 } G cI cZ cE [.long p0, .int p2, .int p3, .int p4] [] [] (some (.int R)) := by
  refine kM_of cX1_weightOfReaching 8 (some .int) RX1 (by decide) rfl rfl (Nat.le_of_ble_eq_true rfl) ?_
  intro p e s m below meth c A ls X hA hP hD hS hl
  have hx := X.1.1
  have hb := X.1.2.1
  have hts := X.1.2.2.2.2
  have hown := X.1.2.2.2.1
  have hK := X.2.2.2.1
  have hl : lv_has ls 8 [(0, .long p0), (2, .int p2), (3, .int p3), (4, .int p4)] := hl
  rw [mX1_weightOfReaching] at hm
  refine lv_lload_n hx hb dX1_weightOfReaching_0 rfl (lv_at hl 0 rfl) ?_
  refine lv_iload_n hx hb dX1_weightOfReaching_1 rfl (lv_at hl 1 rfl) ?_
  refine kcS0 (st1 := [.int (mX5_line p0 p2)]) X hA (c_X5_line l G cI cZ cE p0 p2 _ rfl) (va_cwS 2 hts gX1_weightOfReaching_X5_line rfl rfl rfl hd_X5_line ⟨Nat.le_of_ble_eq_true rfl, Nat.le_of_ble_eq_true rfl⟩) hl.1 dX1_weightOfReaching_2 hP hD hS [] rfl rfl rfl [] rfl (Nat.le_of_ble_eq_true rfl) rfl ⟨Nat.zero_le _, Nat.zero_le _⟩ (fun H locs hP hD hS => ?_)
  refine lv_istore (lv' := [(5, .int (mX5_line p0 p2)), (0, .long p0), (2, .int p2), (3, .int p3), (4, .int p4)]) hx hb dX1_weightOfReaching_5 hl (by decide) rfl (fun ls hl => ?_)
  refine lv_iconst (v := 0) hx hb dX1_weightOfReaching_7 (by decide) ?_
  refine lv_istore (lv' := [(6, .int 0), (5, .int (mX5_line p0 p2)), (0, .long p0), (2, .int p2), (3, .int p3), (4, .int p4)]) hx hb dX1_weightOfReaching_8 hl (by decide) rfl (fun ls hl => ?_)
  refine lv_iconst (v := 0) hx hb dX1_weightOfReaching_10 (by decide) ?_
  refine lv_istore (lv' := [(7, .int 0), (6, .int 0), (5, .int (mX5_line p0 p2)), (0, .long p0), (2, .int p2), (3, .int p3), (4, .int p4)]) hx hb dX1_weightOfReaching_11 hl (by decide) rfl (fun ls hl => ?_)
  have h13 : ∀ (n13 : Nat), ∀ (v13_6 : Int32) (v13_7 : Int32) (H : Heap) (locs : List Loc) (ls : Array Slot), va_P G vwCl [] H → va_D A [] → va_S A s.heap H locs → lv_has ls 8 [(0, .long p0), (2, .int p2), (3, .int p3), (4, .int p4), (5, .int (mX5_line p0 p2)), (6, .int v13_6), (7, .int v13_7)] → mX1_weightOfReaching_L13 p0 p2 p3 p4 n13 v13_6 v13_7 = some R → W p l e { frames := 4, cells := 0, slots := 0, locals := 90 } s m ([.long p0, .int p2, .int p3, .int p4] : List Value).toArray below meth c H locs 0 0 (kQ below G [] (some (.int R)) A ([.long p0, .int p2, .int p3, .int p4] : List Value).toArray s) (F0 m 13 ls []) := by
    intro n13
    induction n13 with
    | zero => intro v13_6 v13_7 H locs ls hP hD hS hl hm; rw [mX1_weightOfReaching_L13] at hm; cases hm
    | succ n13 ih13 =>
      intro v13_6 v13_7 H locs ls hP hD hS hl hm
      rw [mX1_weightOfReaching_L13] at hm
      refine lv_iload hx hb dX1_weightOfReaching_13 (lv_at hl 6 rfl) ?_
      refine lv_iload hx hb dX1_weightOfReaching_15 (lv_at hl 4 rfl) ?_
      refine lv_icmp_gt (tgt := 81) hx hb dX1_weightOfReaching_17 (by decide) (fun c17 => ?_) (fun c17 => ?_)
      · rw [if_pos c17] at hm
        refine lv_iload hx hb dX1_weightOfReaching_81 (lv_at hl 5 rfl) ?_
        have hm := Option.some.inj hm
        subst hm
        exact k_iret (v := v13_6) X rfl dX1_weightOfReaching_83 hP hD hS
      · rw [if_neg c17] at hm
        refine lv_iload hx hb dX1_weightOfReaching_20 (lv_at hl 6 rfl) ?_
        refine lv_iload hx hb dX1_weightOfReaching_22 (lv_at hl 4 rfl) ?_
        refine lv_iconst (v := (-1)) hx hb dX1_weightOfReaching_24 (by decide) ?_
        refine lv_ixor hx hb dX1_weightOfReaching_25 ?_
        refine lv_iand hx hb dX1_weightOfReaching_26 ?_
        refine lv_if_ne (tgt := 75) hx hb dX1_weightOfReaching_27 (by decide) (fun c27 => ?_) (fun c27 => ?_)
        · rw [if_neg c27] at hm
          refine lv_iinc (v := v13_7 + 1) (lv' := [(7, .int (v13_7 + 1)), (0, .long p0), (2, .int p2), (3, .int p3), (4, .int p4), (5, .int (mX5_line p0 p2)), (6, .int v13_6)]) hx hb dX1_weightOfReaching_75 hl (k := 6) rfl rfl (by decide) rfl (fun ls hl => ?_)
          refine lv_goto (tgt := 13) hx hb dX1_weightOfReaching_78 (by decide) ?_
          exact ih13 v13_6 (v13_7 + 1) _ _ _ hP hD hS (lv_sub hl [1, 2, 3, 4, 5, 6, 0] rfl) hm
        · rw [if_pos c27] at hm
          refine lv_lload_n hx hb dX1_weightOfReaching_30 rfl (lv_at hl 0 rfl) ?_
          refine lv_iload_n hx hb dX1_weightOfReaching_31 rfl (lv_at hl 1 rfl) ?_
          refine lv_iload hx hb dX1_weightOfReaching_32 (lv_at hl 6 rfl) ?_
          obtain ⟨r34, hc34, hm⟩ := kbind hm
          refine kcS0 (st1 := [.int r34]) X hA (c_X1_countReached l G cI cZ cE p0 p2 v13_7 r34 hc34) (va_cwS 3 hts gX1_weightOfReaching_X1_countReached rfl rfl rfl hd_X1_countReached ⟨Nat.le_of_ble_eq_true rfl, Nat.le_of_ble_eq_true rfl⟩) hl.1 dX1_weightOfReaching_34 hP hD hS [] rfl rfl rfl [] rfl (Nat.le_of_ble_eq_true rfl) rfl ⟨Nat.zero_le _, Nat.zero_le _⟩ (fun H locs hP hD hS => ?_)
          refine lv_iload_n hx hb dX1_weightOfReaching_37 rfl (lv_at hl 2 rfl) ?_
          refine lv_icmp_lt (tgt := 75) hx hb dX1_weightOfReaching_38 (by decide) (fun c38 => ?_) (fun c38 => ?_)
          · rw [if_pos c38] at hm
            refine lv_iinc (v := v13_7 + 1) (lv' := [(7, .int (v13_7 + 1)), (0, .long p0), (2, .int p2), (3, .int p3), (4, .int p4), (5, .int (mX5_line p0 p2)), (6, .int v13_6)]) hx hb dX1_weightOfReaching_75 hl (k := 6) rfl rfl (by decide) rfl (fun ls hl => ?_)
            refine lv_goto (tgt := 13) hx hb dX1_weightOfReaching_78 (by decide) ?_
            exact ih13 v13_6 (v13_7 + 1) _ _ _ hP hD hS (lv_sub hl [1, 2, 3, 4, 5, 6, 0] rfl) hm
          · rw [if_neg c38] at hm
            refine lv_iload hx hb dX1_weightOfReaching_41 (lv_at hl 5 rfl) ?_
            refine lv_bipush (v := 10) hx hb dX1_weightOfReaching_43 (by decide) ?_
            refine lv_iload hx hb dX1_weightOfReaching_45 (lv_at hl 3 rfl) ?_
            refine lv_isub hx hb dX1_weightOfReaching_47 ?_
            refine lv_iload hx hb dX1_weightOfReaching_48 (lv_at hl 6 rfl) ?_
            refine kcS0 (st1 := [.int (mJ6_bitCount_0f7a4 v13_7), .int (10 - p4), .int v13_6]) X hA (c_J6_bitCount_0f7a4 l G cI cZ cE v13_7 _ rfl) (va_cwS 1 hts gX1_weightOfReaching_J6_bitCount_0f7a4 rfl rfl rfl hd_J6_bitCount_0f7a4 ⟨Nat.le_of_ble_eq_true rfl, Nat.le_of_ble_eq_true rfl⟩) hl.1 dX1_weightOfReaching_50 hP hD hS [] rfl rfl rfl [.int (10 - p4), .int v13_6] rfl (Nat.le_of_ble_eq_true rfl) rfl ⟨Nat.zero_le _, Nat.zero_le _⟩ (fun H locs hP hD hS => ?_)
            obtain ⟨r53, hc53, hm⟩ := kbind hm
            refine kcS0 (st1 := [.int r53, .int v13_6]) X hA (c_X1_power l G cI cZ cE (10 - p4) (mJ6_bitCount_0f7a4 v13_7) r53 hc53) (va_cwS 2 hts gX1_weightOfReaching_X1_power rfl rfl rfl hd_X1_power ⟨Nat.le_of_ble_eq_true rfl, Nat.le_of_ble_eq_true rfl⟩) hl.1 dX1_weightOfReaching_53 hP hD hS [] rfl rfl rfl [.int v13_6] rfl (Nat.le_of_ble_eq_true rfl) rfl ⟨Nat.zero_le _, Nat.zero_le _⟩ (fun H locs hP hD hS => ?_)
            refine lv_iload hx hb dX1_weightOfReaching_56 (lv_at hl 3 rfl) ?_
            refine lv_iload hx hb dX1_weightOfReaching_58 (lv_at hl 4 rfl) ?_
            refine lv_iload hx hb dX1_weightOfReaching_60 (lv_at hl 6 rfl) ?_
            refine lv_iconst (v := (-1)) hx hb dX1_weightOfReaching_62 (by decide) ?_
            refine lv_ixor hx hb dX1_weightOfReaching_63 ?_
            refine lv_iand hx hb dX1_weightOfReaching_64 ?_
            refine kcS0 (st1 := [.int (mJ6_bitCount_0f7a4 ((mX5_line p0 p2) &&& (v13_7 ^^^ (-1)))), .int p4, .int r53, .int v13_6]) X hA (c_J6_bitCount_0f7a4 l G cI cZ cE ((mX5_line p0 p2) &&& (v13_7 ^^^ (-1))) _ rfl) (va_cwS 1 hts gX1_weightOfReaching_J6_bitCount_0f7a4 rfl rfl rfl hd_J6_bitCount_0f7a4 ⟨Nat.le_of_ble_eq_true rfl, Nat.le_of_ble_eq_true rfl⟩) hl.1 dX1_weightOfReaching_65 hP hD hS [] rfl rfl rfl [.int p4, .int r53, .int v13_6] rfl (Nat.le_of_ble_eq_true rfl) rfl ⟨Nat.zero_le _, Nat.zero_le _⟩ (fun H locs hP hD hS => ?_)
            obtain ⟨r68, hc68, hm⟩ := kbind hm
            refine kcS0 (st1 := [.int r68, .int r53, .int v13_6]) X hA (c_X1_power l G cI cZ cE p4 (mJ6_bitCount_0f7a4 ((mX5_line p0 p2) &&& (v13_7 ^^^ (-1)))) r68 hc68) (va_cwS 2 hts gX1_weightOfReaching_X1_power rfl rfl rfl hd_X1_power ⟨Nat.le_of_ble_eq_true rfl, Nat.le_of_ble_eq_true rfl⟩) hl.1 dX1_weightOfReaching_68 hP hD hS [] rfl rfl rfl [.int r53, .int v13_6] rfl (Nat.le_of_ble_eq_true rfl) rfl ⟨Nat.zero_le _, Nat.zero_le _⟩ (fun H locs hP hD hS => ?_)
            refine lv_imul hx hb dX1_weightOfReaching_71 ?_
            refine lv_iadd hx hb dX1_weightOfReaching_72 ?_
            refine lv_istore (lv' := [(6, .int (v13_6 + (r53 * r68))), (0, .long p0), (2, .int p2), (3, .int p3), (4, .int p4), (5, .int (mX5_line p0 p2)), (7, .int v13_7)]) hx hb dX1_weightOfReaching_73 hl (by decide) rfl (fun ls hl => ?_)
            refine lv_iinc (v := v13_7 + 1) (lv' := [(7, .int (v13_7 + 1)), (6, .int (v13_6 + (r53 * r68))), (0, .long p0), (2, .int p2), (3, .int p3), (4, .int p4), (5, .int (mX5_line p0 p2))]) hx hb dX1_weightOfReaching_75 hl (k := 6) rfl rfl (by decide) rfl (fun ls hl => ?_)
            refine lv_goto (tgt := 13) hx hb dX1_weightOfReaching_78 (by decide) ?_
            exact ih13 (v13_6 + (r53 * r68)) (v13_7 + 1) _ _ _ hP hD hS (lv_sub hl [2, 3, 4, 5, 6, 1, 0] rfl) hm
  exact h13 kFU 0 0 _ _ _ hP hD hS (lv_sub hl [3, 4, 5, 6, 2, 1, 0] rfl) hm
theorem hd_X1_weightOfReaching : yX1_weightOfReaching.cls ≠ "java/lang/invoke/MethodHandle" ∧ yX1_weightOfReaching.cls ≠ "java/lang/invoke/VarHandle" ∧ (parseMethodDescriptor yX1_weightOfReaching.desc).map (fun d => d.parameters.length) = some 4 := by decide +kernel
/-! CoverOrder.Chances greatestDivisor -/
set_option maxRecDepth 100000 in
set_option maxHeartbeats 4000000 in
theorem c_X1_greatestDivisor (l : Launch) (G : va_G) (cI cZ cE : ClassId) (p0 : Int32) (p1 : Int32) (R : Int32) (hm : mX1_greatestDivisor p0 p1 = some R) : kM l yX1_greatestDivisor wsX1_greatestDivisor { frames := 0, cells := 0, slots := 0, locals := 0 } G cI cZ cE [.int p0, .int p1] [] [] (some (.int R)) := by
  refine kM_of cX1_greatestDivisor 6 (some .int) RX1 (by decide) rfl rfl (Nat.le_of_ble_eq_true rfl) ?_
  intro p e s m below meth c A ls X hA hP hD hS hl
  have hx := X.1.1
  have hb := X.1.2.1
  have hts := X.1.2.2.2.2
  have hown := X.1.2.2.2.1
  have hK := X.2.2.2.1
  have hl : lv_has ls 6 [(0, .int p0), (1, .int p1)] := hl
  rw [mX1_greatestDivisor] at hm
  refine lv_iload_n hx hb dX1_greatestDivisor_0 rfl (lv_at hl 0 rfl) ?_
  refine lv_istore_n (lv' := [(2, .int p0), (0, .int p0), (1, .int p1)]) hx hb dX1_greatestDivisor_1 rfl hl (by decide) rfl (fun ls hl => ?_)
  refine lv_iload_n hx hb dX1_greatestDivisor_2 rfl (lv_at hl 2 rfl) ?_
  refine lv_istore_n (lv' := [(3, .int p1), (2, .int p0), (0, .int p0), (1, .int p1)]) hx hb dX1_greatestDivisor_3 rfl hl (by decide) rfl (fun ls hl => ?_)
  refine lv_iconst (v := 0) hx hb dX1_greatestDivisor_4 (by decide) ?_
  refine lv_istore (lv' := [(4, .int 0), (3, .int p1), (2, .int p0), (0, .int p0), (1, .int p1)]) hx hb dX1_greatestDivisor_5 hl (by decide) rfl (fun ls hl => ?_)
  have h7 : ∀ (n7 : Nat), ∀ (v7_2 : Int32) (v7_3 : Int32) (v7_4 : Int32) (H : Heap) (locs : List Loc) (ls : Array Slot), va_P G vwCl [] H → va_D A [] → va_S A s.heap H locs → lv_has ls 6 [(2, .int v7_2), (3, .int v7_3), (4, .int v7_4)] → mX1_greatestDivisor_L7 n7 v7_2 v7_3 v7_4 = some R → W p l e { frames := 0, cells := 0, slots := 0, locals := 0 } s m ([.int p0, .int p1] : List Value).toArray below meth c H locs 0 0 (kQ below G [] (some (.int R)) A ([.int p0, .int p1] : List Value).toArray s) (F0 m 7 ls []) := by
    intro n7
    induction n7 with
    | zero => intro v7_2 v7_3 v7_4 H locs ls hP hD hS hl hm; rw [mX1_greatestDivisor_L7] at hm; cases hm
    | succ n7 ih7 =>
      intro v7_2 v7_3 v7_4 H locs ls hP hD hS hl hm
      rw [mX1_greatestDivisor_L7] at hm
      refine lv_iload hx hb dX1_greatestDivisor_7 (lv_at hl 2 rfl) ?_
      refine lv_bipush (v := 64) hx hb dX1_greatestDivisor_9 (by decide) ?_
      refine lv_icmp_ge (tgt := 34) hx hb dX1_greatestDivisor_11 (by decide) (fun c11 => ?_) (fun c11 => ?_)
      · rw [if_pos c11] at hm
        refine lv_iload_n hx hb dX1_greatestDivisor_34 rfl (lv_at hl 0 rfl) ?_
        have hm := Option.some.inj hm
        subst hm
        exact k_iret (v := v7_2) X rfl dX1_greatestDivisor_35 hP hD hS
      · rw [if_neg c11] at hm
        refine lv_iload_n hx hb dX1_greatestDivisor_14 rfl (lv_at hl 1 rfl) ?_
        refine lv_if_eq (tgt := 34) hx hb dX1_greatestDivisor_15 (by decide) (fun c15 => ?_) (fun c15 => ?_)
        · rw [if_pos c15] at hm
          refine lv_iload_n hx hb dX1_greatestDivisor_34 rfl (lv_at hl 0 rfl) ?_
          have hm := Option.some.inj hm
          subst hm
          exact k_iret (v := v7_2) X rfl dX1_greatestDivisor_35 hP hD hS
        · rw [if_neg c15] at hm
          refine lv_iload_n hx hb dX1_greatestDivisor_18 rfl (lv_at hl 0 rfl) ?_
          refine lv_iload_n hx hb dX1_greatestDivisor_19 rfl (lv_at hl 1 rfl) ?_
          refine lv_irem hx hb dX1_greatestDivisor_20 c15 ?_
          refine lv_istore (lv' := [(5, .int (v7_2 - v7_2 / v7_3 * v7_3)), (2, .int v7_2), (3, .int v7_3), (4, .int v7_4)]) hx hb dX1_greatestDivisor_21 hl (by decide) rfl (fun ls hl => ?_)
          refine lv_iload_n hx hb dX1_greatestDivisor_23 rfl (lv_at hl 2 rfl) ?_
          refine lv_istore_n (lv' := [(2, .int v7_3), (5, .int (v7_2 - v7_2 / v7_3 * v7_3)), (3, .int v7_3), (4, .int v7_4)]) hx hb dX1_greatestDivisor_24 rfl hl (by decide) rfl (fun ls hl => ?_)
          refine lv_iload hx hb dX1_greatestDivisor_25 (lv_at hl 1 rfl) ?_
          refine lv_istore_n (lv' := [(3, .int (v7_2 - v7_2 / v7_3 * v7_3)), (2, .int v7_3), (5, .int (v7_2 - v7_2 / v7_3 * v7_3)), (4, .int v7_4)]) hx hb dX1_greatestDivisor_27 rfl hl (by decide) rfl (fun ls hl => ?_)
          refine lv_iinc (v := v7_4 + 1) (lv' := [(4, .int (v7_4 + 1)), (3, .int (v7_2 - v7_2 / v7_3 * v7_3)), (2, .int v7_3), (5, .int (v7_2 - v7_2 / v7_3 * v7_3))]) hx hb dX1_greatestDivisor_28 hl (k := 3) rfl rfl (by decide) rfl (fun ls hl => ?_)
          refine lv_goto (tgt := 7) hx hb dX1_greatestDivisor_31 (by decide) ?_
          exact ih7 v7_3 (v7_2 - v7_2 / v7_3 * v7_3) (v7_4 + 1) _ _ _ hP hD hS (lv_sub hl [2, 1, 0] rfl) hm
  exact h7 kFU p0 p1 0 _ _ _ hP hD hS (lv_sub hl [2, 1, 0] rfl) hm
theorem hd_X1_greatestDivisor : yX1_greatestDivisor.cls ≠ "java/lang/invoke/MethodHandle" ∧ yX1_greatestDivisor.cls ≠ "java/lang/invoke/VarHandle" ∧ (parseMethodDescriptor yX1_greatestDivisor.desc).map (fun d => d.parameters.length) = some 2 := by decide +kernel
/-! CoverOrder.Chances inLeastTerms -/
set_option maxRecDepth 100000 in
set_option maxHeartbeats 4000000 in
theorem c_X1_inLeastTerms (l : Launch) (G : va_G) (cI cZ cE : ClassId) (p0 : Int32) (p1 : Int32) (p2 : Bool) (R : Int32) (hm : mX1_inLeastTerms p0 p1 p2 = some R) : kM l yX1_inLeastTerms wsX1_inLeastTerms { frames := 1, cells := 0, slots := 0, locals := 25 } G cI cZ cE [.int p0, .int p1, .int (bI p2)] [] [] (some (.int R)) := by
  refine kM_of cX1_inLeastTerms 5 (some .int) RX1 (by decide) rfl rfl (Nat.le_of_ble_eq_true rfl) ?_
  intro p e s m below meth c A ls X hA hP hD hS hl
  have hx := X.1.1
  have hb := X.1.2.1
  have hts := X.1.2.2.2.2
  have hown := X.1.2.2.2.1
  have hK := X.2.2.2.1
  have hl : lv_has ls 5 [(0, .int p0), (1, .int p1), (2, .int (bI p2))] := hl
  rw [mX1_inLeastTerms] at hm
  refine lv_iload_n hx hb dX1_inLeastTerms_0 rfl (lv_at hl 0 rfl) ?_
  refine lv_iload_n hx hb dX1_inLeastTerms_1 rfl (lv_at hl 1 rfl) ?_
  obtain ⟨r2, hc2, hm⟩ := kbind hm
  refine kcS0 (st1 := [.int r2]) X hA (c_X1_greatestDivisor l G cI cZ cE p0 p1 r2 hc2) (va_cwS 2 hts gX1_inLeastTerms_X1_greatestDivisor rfl rfl rfl hd_X1_greatestDivisor ⟨Nat.le_of_ble_eq_true rfl, Nat.le_of_ble_eq_true rfl⟩) hl.1 dX1_inLeastTerms_2 hP hD hS [] rfl rfl rfl [] rfl (Nat.le_of_ble_eq_true rfl) rfl ⟨Nat.zero_le _, Nat.zero_le _⟩ (fun H locs hP hD hS => ?_)
  refine lv_istore_n (lv' := [(3, .int r2), (0, .int p0), (1, .int p1), (2, .int (bI p2))]) hx hb dX1_inLeastTerms_5 rfl hl (by decide) rfl (fun ls hl => ?_)
  refine lv_iload_n hx hb dX1_inLeastTerms_6 rfl (lv_at hl 3 rfl) ?_
  have h15 : ∀ (s15_0 : Int32) (H : Heap) (locs : List Loc) (ls : Array Slot), va_P G vwCl [] H → va_D A [] → va_S A s.heap H locs → lv_has ls 5 [(3, .int r2)] → mX1_inLeastTerms_J15 r2 s15_0 = some R → W p l e { frames := 1, cells := 0, slots := 0, locals := 25 } s m ([.int p0, .int p1, .int (bI p2)] : List Value).toArray below meth c H locs 0 0 (kQ below G [] (some (.int R)) A ([.int p0, .int p1, .int (bI p2)] : List Value).toArray s) (F0 m 15 ls [.int s15_0]) := by
    intro s15_0 H locs ls hP hD hS hl hm
    rw [mX1_inLeastTerms_J15] at hm
    refine lv_istore (lv' := [(4, .int s15_0), (3, .int r2)]) hx hb dX1_inLeastTerms_15 hl (by decide) rfl (fun ls hl => ?_)
    refine lv_iload_n hx hb dX1_inLeastTerms_17 rfl (lv_at hl 1 rfl) ?_
    refine lv_if_ne (tgt := 26) hx hb dX1_inLeastTerms_18 (by decide) (fun c18 => ?_) (fun c18 => ?_)
    · rw [if_neg c18] at hm
      refine lv_iload hx hb dX1_inLeastTerms_26 (lv_at hl 0 rfl) ?_
      refine lv_iload_n hx hb dX1_inLeastTerms_28 rfl (lv_at hl 1 rfl) ?_
      refine lv_idiv hx hb dX1_inLeastTerms_29 c18 ?_
      have hm := Option.some.inj hm
      subst hm
      exact k_iret (v := s15_0 / r2) X rfl dX1_inLeastTerms_30 hP hD hS
    · rw [if_pos c18] at hm
      refine lv_iload hx hb dX1_inLeastTerms_21 (lv_at hl 0 rfl) ?_
      refine lv_goto (tgt := 30) hx hb dX1_inLeastTerms_23 (by decide) ?_
      have hm := Option.some.inj hm
      subst hm
      exact k_iret (v := s15_0) X rfl dX1_inLeastTerms_30 hP hD hS
  refine lv_if_eq (tgt := 14) hx hb dX1_inLeastTerms_7 (by decide) (fun c7 => ?_) (fun c7 => ?_)
  · have c7 := kb0 c7
    rw [if_neg c7] at hm
    refine lv_iload_n hx hb dX1_inLeastTerms_14 rfl (lv_at hl 2 rfl) ?_
    exact h15 p1 _ _ _ hP hD hS (lv_sub hl [0] rfl) hm
  · have c7 := kb1 c7
    rw [if_pos c7] at hm
    refine lv_iload_n hx hb dX1_inLeastTerms_10 rfl (lv_at hl 1 rfl) ?_
    refine lv_goto (tgt := 15) hx hb dX1_inLeastTerms_11 (by decide) ?_
    exact h15 p0 _ _ _ hP hD hS (lv_sub hl [0] rfl) hm
theorem hd_X1_inLeastTerms : yX1_inLeastTerms.cls ≠ "java/lang/invoke/MethodHandle" ∧ yX1_inLeastTerms.cls ≠ "java/lang/invoke/VarHandle" ∧ (parseMethodDescriptor yX1_inLeastTerms.desc).map (fun d => d.parameters.length) = some 3 := by decide +kernel
/-! CoverOrder.Covers isReached -/
set_option maxRecDepth 100000 in
set_option maxHeartbeats 4000000 in
theorem c_X2_isReached (l : Launch) (G : va_G) (cI cZ cE : ClassId) (a_t : Nat) (k_t_grid : Int64) (k_t_covered : Int64) (k_t_coverers : Int64) (k_t_reached : Int32) (p1 : Int32) (R : Bool) (hm : mX2_isReached k_t_reached p1 = R) : kM l yX2_isReached wsX2_isReached { frames := 1, cells := 0, slots := 0, locals := 21 } G cI cZ cE [.ref a_t, .int p1] [(a_t, .inr (1, [.long k_t_grid, .long k_t_covered, .long k_t_coverers, .int k_t_reached]))] [(a_t, .inr (1, [.long k_t_grid, .long k_t_covered, .long k_t_coverers, .int k_t_reached]))] (some (.int (bI R))) := by
  refine kM_of cX2_isReached 2 (some .boolean) RX2 (by decide) rfl rfl (Nat.le_of_ble_eq_true rfl) ?_
  intro p e s m below meth c A ls X hA hP hD hS hl
  have hx := X.1.1
  have hb := X.1.2.1
  have hts := X.1.2.2.2.2
  have hown := X.1.2.2.2.1
  have hK := X.2.2.2.1
  have l_21 : (.fieldLink RX2 21 "CoverOrder$Covers" "reached" "I" : Cond).before _ s = true := hts _ (List.mem_of_getElem? (i := 1) (by decide +kernel))
  have i_X2 : ∀ w ∈ u_ws RX2 TX2 4, w ∈ wsX2_isReached := k_in _ [6, 7, 8, 9] (by decide +kernel)
  have hl : lv_has ls 2 [(0, .ref a_t), (1, .int p1)] := hl
  rw [mX2_isReached] at hm
  refine lv_aload_n hx hb dX2_isReached_0 rfl (lv_at hl 0 rfl) ?_
  refine va_get (D := G) (ci := 1) (v := .int k_t_reached) (C := RX2) (T := TX2) (N := 4) hx hb hts i_X2 hown hK hP 0 rfl rfl 3 (by decide) l_21 (fun _ h9 => h9) rfl dX2_isReached_1 ?_
  refine lv_iload_n hx hb dX2_isReached_4 rfl (lv_at hl 1 rfl) ?_
  refine kcS0 (st1 := [.int (bI (mX5_isIn k_t_reached p1))]) X hA (c_X5_isIn l G cI cZ cE k_t_reached p1 _ rfl) (va_cwS 2 hts gX2_isReached_X5_isIn rfl rfl rfl hd_X5_isIn ⟨Nat.le_of_ble_eq_true rfl, Nat.le_of_ble_eq_true rfl⟩) hl.1 dX2_isReached_5 hP hD hS [] rfl rfl rfl [] rfl (Nat.le_of_ble_eq_true rfl) rfl ⟨Nat.zero_le _, Nat.zero_le _⟩ (fun H locs hP hD hS => ?_)
  subst hm
  exact k_zret (v := (mX5_isIn k_t_reached p1)) X rfl dX2_isReached_8 hP hD hS
theorem hd_X2_isReached : yX2_isReached.cls = RX2 ∧ yX2_isReached.cls ≠ "java/lang/invoke/MethodHandle" ∧ yX2_isReached.cls ≠ "java/lang/invoke/VarHandle" ∧ (parseMethodDescriptor yX2_isReached.desc).map (fun d => d.parameters.length) = some 1 := by decide +kernel
/-! CoverOrder.Covers learn -/
set_option maxRecDepth 100000 in
set_option maxHeartbeats 4000000 in
theorem c_X2_learn (l : Launch) (G : va_G) (cI cZ cE : ClassId) (a_t : Nat) (k_t_grid : Int64) (k_t_covered : Int64) (k_t_coverers : Int64) (k_t_reached : Int32) (p1 : Int64) (R : Int64 × Int64 × Int64 × Int32) (hm : mX2_learn k_t_grid k_t_covered k_t_coverers k_t_reached p1 = some R) : kM l yX2_learn wsX2_learn { frames := 3, cells := 0, slots := 0, locals := 70 } G cI cZ cE [.ref a_t, .long p1] [(a_t, .inr (1, [.long k_t_grid, .long k_t_covered, .long k_t_coverers, .int k_t_reached]))] [(a_t, .inr (1, [.long R.1, .long R.2.1, .long R.2.2.1, .int R.2.2.2]))] none := by
  refine kM_of cX2_learn 5 none RX2 (by decide) rfl rfl (Nat.le_of_ble_eq_true rfl) ?_
  intro p e s m below meth c A ls X hA hP hD hS hl
  have hx := X.1.1
  have hb := X.1.2.1
  have hts := X.1.2.2.2.2
  have hown := X.1.2.2.2.1
  have hK := X.2.2.2.1
  have l_9 : (.fieldLink RX2 9 "CoverOrder$Covers" "grid" "J" : Cond).before _ s = true := hts _ (List.mem_of_getElem? (i := 1) (by decide +kernel))
  have i_X2 : ∀ w ∈ u_ws RX2 TX2 4, w ∈ wsX2_learn := k_in _ [47, 48, 49, 50] (by decide +kernel)
  have l_21 : (.fieldLink RX2 21 "CoverOrder$Covers" "reached" "I" : Cond).before _ s = true := hts _ (List.mem_of_getElem? (i := 2) (by decide +kernel))
  have l_24 : (.fieldLink RX2 24 "CoverOrder$Covers" "covered" "J" : Cond).before _ s = true := hts _ (List.mem_of_getElem? (i := 3) (by decide +kernel))
  have l_43 : (.fieldLink RX2 43 "CoverOrder$Covers" "coverers" "J" : Cond).before _ s = true := hts _ (List.mem_of_getElem? (i := 4) (by decide +kernel))
  have hl : lv_has ls 5 [(0, .ref a_t), (1, .long p1)] := hl
  rw [mX2_learn] at hm
  refine lv_aload_n hx hb dX2_learn_0 rfl (lv_at hl 0 rfl) ?_
  refine lv_lload_n hx hb dX2_learn_1 rfl (lv_at hl 1 rfl) ?_
  refine va_put (D := G) (ci := 1) (v := .long p1) (ty := .long) (C := RX2) (T := TX2) (N := 4) hx hb hts i_X2 tyX2 tyX2_ok nmX2 hown hK hP hD hS 0 rfl rfl 0 (by decide) l_9 (fun _ h9 => h9) rfl (by decide +kernel) rfl rfl (Nat.le_of_ble_eq_true rfl) dX2_learn_2 (fun H locs hP hD hS => ?_)
  have hP : va_P G vwCl [(a_t, .inr (1, [.long p1, .long k_t_covered, .long k_t_coverers, .int k_t_reached]))] H := hP
  have hD : va_D A [(a_t, .inr (1, [.long p1, .long k_t_covered, .long k_t_coverers, .int k_t_reached]))] := hD
  refine lv_aload_n hx hb dX2_learn_5 rfl (lv_at hl 0 rfl) ?_
  refine lv_lload_n hx hb dX2_learn_6 rfl (lv_at hl 1 rfl) ?_
  refine lv_iconst (v := 0) hx hb dX2_learn_7 (by decide) ?_
  obtain ⟨r8, hc8, hm⟩ := kbind hm
  refine kcS0 (st1 := [.int r8, .ref a_t]) X hA (c_X5_reached l G cI cZ cE p1 0 r8 hc8) (va_cwS 2 hts gX2_learn_X5_reached rfl rfl rfl hd_X5_reached ⟨Nat.le_of_ble_eq_true rfl, Nat.le_of_ble_eq_true rfl⟩) hl.1 dX2_learn_8 hP hD hS [] rfl rfl rfl [.ref a_t] rfl (Nat.le_of_ble_eq_true rfl) rfl ⟨Nat.zero_le _, Nat.zero_le _⟩ (fun H locs hP hD hS => ?_)
  refine va_put (D := G) (ci := 1) (v := .int r8) (ty := .int) (C := RX2) (T := TX2) (N := 4) hx hb hts i_X2 tyX2 tyX2_ok nmX2 hown hK hP hD hS 0 rfl rfl 3 (by decide) l_21 (fun _ h9 => h9) rfl (by decide +kernel) rfl rfl (Nat.le_of_ble_eq_true rfl) dX2_learn_11 (fun H locs hP hD hS => ?_)
  have hP : va_P G vwCl [(a_t, .inr (1, [.long p1, .long k_t_covered, .long k_t_coverers, .int r8]))] H := hP
  have hD : va_D A [(a_t, .inr (1, [.long p1, .long k_t_covered, .long k_t_coverers, .int r8]))] := hD
  refine lv_aload_n hx hb dX2_learn_14 rfl (lv_at hl 0 rfl) ?_
  refine lv_lconst (v := 0) hx hb dX2_learn_15 (by decide) ?_
  refine va_put (D := G) (ci := 1) (v := .long 0) (ty := .long) (C := RX2) (T := TX2) (N := 4) hx hb hts i_X2 tyX2 tyX2_ok nmX2 hown hK hP hD hS 0 rfl rfl 1 (by decide) l_24 (fun _ h9 => h9) rfl (by decide +kernel) rfl rfl (Nat.le_of_ble_eq_true rfl) dX2_learn_16 (fun H locs hP hD hS => ?_)
  have hP : va_P G vwCl [(a_t, .inr (1, [.long p1, .long 0, .long k_t_coverers, .int r8]))] H := hP
  have hD : va_D A [(a_t, .inr (1, [.long p1, .long 0, .long k_t_coverers, .int r8]))] := hD
  refine lv_iconst (v := 0) hx hb dX2_learn_19 (by decide) ?_
  refine lv_istore_n (lv' := [(3, .int 0), (0, .ref a_t), (1, .long p1)]) hx hb dX2_learn_20 rfl hl (by decide) rfl (fun ls hl => ?_)
  have h21 : ∀ (n21 : Nat), ∀ (v21_3 : Int32) (w21_k_t_covered : Int64) (H : Heap) (locs : List Loc) (ls : Array Slot), va_P G vwCl [(a_t, .inr (1, [.long p1, .long w21_k_t_covered, .long k_t_coverers, .int r8]))] H → va_D A [(a_t, .inr (1, [.long p1, .long w21_k_t_covered, .long k_t_coverers, .int r8]))] → va_S A s.heap H locs → lv_has ls 5 [(0, .ref a_t), (1, .long p1), (3, .int v21_3)] → mX2_learn_L21 p1 r8 n21 v21_3 w21_k_t_covered = some R → W p l e { frames := 3, cells := 0, slots := 0, locals := 70 } s m ([.ref a_t, .long p1] : List Value).toArray below meth c H locs 0 0 (kQ below G [(a_t, .inr (1, [.long R.1, .long R.2.1, .long R.2.2.1, .int R.2.2.2]))] none A ([.ref a_t, .long p1] : List Value).toArray s) (F0 m 21 ls []) := by
    intro n21
    induction n21 with
    | zero => intro v21_3 w21_k_t_covered H locs ls hP hD hS hl hm; rw [mX2_learn_L21] at hm; cases hm
    | succ n21 ih21 =>
      intro v21_3 w21_k_t_covered H locs ls hP hD hS hl hm
      rw [mX2_learn_L21] at hm
      refine lv_iload_n hx hb dX2_learn_21 rfl (lv_at hl 2 rfl) ?_
      refine lv_bipush (v := 8) hx hb dX2_learn_22 (by decide) ?_
      have h72 : ∀ (H : Heap) (locs : List Loc) (ls : Array Slot), va_P G vwCl [(a_t, .inr (1, [.long p1, .long w21_k_t_covered, .long k_t_coverers, .int r8]))] H → va_D A [(a_t, .inr (1, [.long p1, .long w21_k_t_covered, .long k_t_coverers, .int r8]))] → va_S A s.heap H locs → lv_has ls 5 [(0, .ref a_t)] → mX2_learn_J72 p1 r8 w21_k_t_covered = some R → W p l e { frames := 3, cells := 0, slots := 0, locals := 70 } s m ([.ref a_t, .long p1] : List Value).toArray below meth c H locs 0 0 (kQ below G [(a_t, .inr (1, [.long R.1, .long R.2.1, .long R.2.2.1, .int R.2.2.2]))] none A ([.ref a_t, .long p1] : List Value).toArray s) (F0 m 72 ls []) := by
        intro H locs ls hP hD hS hl hm
        rw [mX2_learn_J72] at hm
        refine lv_aload_n hx hb dX2_learn_72 rfl (lv_at hl 0 rfl) ?_
        refine lv_aload_n hx hb dX2_learn_73 rfl (lv_at hl 0 rfl) ?_
        refine va_get (D := G) (ci := 1) (v := .long w21_k_t_covered) (C := RX2) (T := TX2) (N := 4) hx hb hts i_X2 hown hK hP 0 rfl rfl 1 (by decide) l_24 (fun _ h9 => h9) rfl dX2_learn_74 ?_
        obtain ⟨r77, hc77, hm⟩ := kbind hm
        refine kcS0 (st1 := [.long r77, .ref a_t]) X hA (c_X5_turned l G cI cZ cE w21_k_t_covered r77 hc77) (va_cwS 1 hts gX2_learn_X5_turned rfl rfl rfl hd_X5_turned ⟨Nat.le_of_ble_eq_true rfl, Nat.le_of_ble_eq_true rfl⟩) hl.1 dX2_learn_77 hP hD hS [] rfl rfl rfl [.ref a_t] rfl (Nat.le_of_ble_eq_true rfl) rfl ⟨Nat.zero_le _, Nat.zero_le _⟩ (fun H locs hP hD hS => ?_)
        refine va_put (D := G) (ci := 1) (v := .long r77) (ty := .long) (C := RX2) (T := TX2) (N := 4) hx hb hts i_X2 tyX2 tyX2_ok nmX2 hown hK hP hD hS 0 rfl rfl 2 (by decide) l_43 (fun _ h9 => h9) rfl (by decide +kernel) rfl rfl (Nat.le_of_ble_eq_true rfl) dX2_learn_80 (fun H locs hP hD hS => ?_)
        have hP : va_P G vwCl [(a_t, .inr (1, [.long p1, .long w21_k_t_covered, .long r77, .int r8]))] H := hP
        have hD : va_D A [(a_t, .inr (1, [.long p1, .long w21_k_t_covered, .long r77, .int r8]))] := hD
        have hm := Option.some.inj hm
        subst hm
        exact k_vret X rfl dX2_learn_83 hP hD hS
      refine lv_icmp_ge (tgt := 72) hx hb dX2_learn_24 (by decide) (fun c24 => ?_) (fun c24 => ?_)
      · rw [if_pos c24] at hm
        exact h72 _ _ _ hP hD hS (lv_sub hl [0] rfl) hm
      · rw [if_neg c24] at hm
        refine lv_aload_n hx hb dX2_learn_27 rfl (lv_at hl 0 rfl) ?_
        refine lv_iload_n hx hb dX2_learn_28 rfl (lv_at hl 2 rfl) ?_
        refine kcV0 (st1 := [.int (bI (mX2_isReached r8 v21_3))]) X hA (c_X2_isReached l G cI cZ cE a_t p1 w21_k_t_covered k_t_coverers r8 v21_3 _ rfl) (cwV 1 hts gX2_learn_X2_isReached rfl rfl rfl hd_X2_isReached ⟨Nat.le_of_ble_eq_true rfl, Nat.le_of_ble_eq_true rfl⟩) 0 1 rfl rfl hl.1 dX2_learn_29 hP hD hS [0] rfl rfl rfl [] rfl (Nat.le_of_ble_eq_true rfl) rfl ⟨Nat.zero_le _, Nat.zero_le _⟩ (fun H locs hP hD hS => ?_)
        refine lv_if_eq (tgt := 66) hx hb dX2_learn_32 (by decide) (fun c32 => ?_) (fun c32 => ?_)
        · have c32 := kb0 c32
          rw [if_neg c32] at hm
          refine lv_iinc (v := v21_3 + 1) (lv' := [(3, .int (v21_3 + 1)), (0, .ref a_t), (1, .long p1)]) hx hb dX2_learn_66 hl (k := 2) rfl rfl (by decide) rfl (fun ls hl => ?_)
          refine lv_goto (tgt := 21) hx hb dX2_learn_69 (by decide) ?_
          exact ih21 (v21_3 + 1) w21_k_t_covered _ _ _ hP hD hS (lv_sub hl [1, 2, 0] rfl) hm
        · have c32 := kb1 c32
          rw [if_pos c32] at hm
          refine lv_lload_n hx hb dX2_learn_35 rfl (lv_at hl 1 rfl) ?_
          refine lv_iload_n hx hb dX2_learn_36 rfl (lv_at hl 2 rfl) ?_
          refine kcS0 (st1 := [.int (mX5_only v21_3), .long p1]) X hA (c_X5_only l G cI cZ cE v21_3 _ rfl) (va_cwS 1 hts gX2_learn_X5_only rfl rfl rfl hd_X5_only ⟨Nat.le_of_ble_eq_true rfl, Nat.le_of_ble_eq_true rfl⟩) hl.1 dX2_learn_37 hP hD hS [] rfl rfl rfl [.long p1] rfl (Nat.le_of_ble_eq_true rfl) rfl ⟨Nat.zero_le _, Nat.zero_le _⟩ (fun H locs hP hD hS => ?_)
          obtain ⟨r40, hc40, hm⟩ := kbind hm
          refine kcS0 (st1 := [.int r40]) X hA (c_X5_reached l G cI cZ cE p1 (mX5_only v21_3) r40 hc40) (va_cwS 2 hts gX2_learn_X5_reached rfl rfl rfl hd_X5_reached ⟨Nat.le_of_ble_eq_true rfl, Nat.le_of_ble_eq_true rfl⟩) hl.1 dX2_learn_40 hP hD hS [] rfl rfl rfl [] rfl (Nat.le_of_ble_eq_true rfl) rfl ⟨Nat.zero_le _, Nat.zero_le _⟩ (fun H locs hP hD hS => ?_)
          refine lv_istore (lv' := [(4, .int r40), (0, .ref a_t), (1, .long p1), (3, .int v21_3)]) hx hb dX2_learn_43 hl (by decide) rfl (fun ls hl => ?_)
          refine lv_aload_n hx hb dX2_learn_45 rfl (lv_at hl 1 rfl) ?_
          refine lv_aload_n hx hb dX2_learn_46 rfl (lv_at hl 1 rfl) ?_
          refine va_get (D := G) (ci := 1) (v := .long w21_k_t_covered) (C := RX2) (T := TX2) (N := 4) hx hb hts i_X2 hown hK hP 0 rfl rfl 1 (by decide) l_24 (fun _ h9 => h9) rfl dX2_learn_47 ?_
          refine lv_iload_n hx hb dX2_learn_50 rfl (lv_at hl 3 rfl) ?_
          refine lv_aload_n hx hb dX2_learn_51 rfl (lv_at hl 1 rfl) ?_
          refine va_get (D := G) (ci := 1) (v := .int r8) (C := RX2) (T := TX2) (N := 4) hx hb hts i_X2 hown hK hP 0 rfl rfl 3 (by decide) l_21 (fun _ h9 => h9) rfl dX2_learn_52 ?_
          refine lv_iload hx hb dX2_learn_55 (lv_at hl 0 rfl) ?_
          refine lv_iconst (v := (-1)) hx hb dX2_learn_57 (by decide) ?_
          refine lv_ixor hx hb dX2_learn_58 ?_
          refine lv_iand hx hb dX2_learn_59 ?_
          refine kcS0 (st1 := [.long (mX5_withLine w21_k_t_covered v21_3 (r8 &&& (r40 ^^^ (-1)))), .ref a_t]) X hA (c_X5_withLine l G cI cZ cE w21_k_t_covered v21_3 (r8 &&& (r40 ^^^ (-1))) _ rfl) (va_cwS 3 hts gX2_learn_X5_withLine rfl rfl rfl hd_X5_withLine ⟨Nat.le_of_ble_eq_true rfl, Nat.le_of_ble_eq_true rfl⟩) hl.1 dX2_learn_60 hP hD hS [] rfl rfl rfl [.ref a_t] rfl (Nat.le_of_ble_eq_true rfl) rfl ⟨Nat.zero_le _, Nat.zero_le _⟩ (fun H locs hP hD hS => ?_)
          refine va_put (D := G) (ci := 1) (v := .long (mX5_withLine w21_k_t_covered v21_3 (r8 &&& (r40 ^^^ (-1))))) (ty := .long) (C := RX2) (T := TX2) (N := 4) hx hb hts i_X2 tyX2 tyX2_ok nmX2 hown hK hP hD hS 0 rfl rfl 1 (by decide) l_24 (fun _ h9 => h9) rfl (by decide +kernel) rfl rfl (Nat.le_of_ble_eq_true rfl) dX2_learn_63 (fun H locs hP hD hS => ?_)
          have hP : va_P G vwCl [(a_t, .inr (1, [.long p1, .long (mX5_withLine w21_k_t_covered v21_3 (r8 &&& (r40 ^^^ (-1)))), .long k_t_coverers, .int r8]))] H := hP
          have hD : va_D A [(a_t, .inr (1, [.long p1, .long (mX5_withLine w21_k_t_covered v21_3 (r8 &&& (r40 ^^^ (-1)))), .long k_t_coverers, .int r8]))] := hD
          refine lv_iinc (v := v21_3 + 1) (lv' := [(3, .int (v21_3 + 1)), (4, .int r40), (0, .ref a_t), (1, .long p1)]) hx hb dX2_learn_66 hl (k := 3) rfl rfl (by decide) rfl (fun ls hl => ?_)
          refine lv_goto (tgt := 21) hx hb dX2_learn_69 (by decide) ?_
          exact ih21 (v21_3 + 1) (mX5_withLine w21_k_t_covered v21_3 (r8 &&& (r40 ^^^ (-1)))) _ _ _ hP hD hS (lv_sub hl [2, 3, 0] rfl) hm
  exact h21 kFU 0 0 _ _ _ hP hD hS (lv_sub hl [1, 2, 0] rfl) hm
theorem hd_X2_learn : yX2_learn.cls = RX2 ∧ yX2_learn.cls ≠ "java/lang/invoke/MethodHandle" ∧ yX2_learn.cls ≠ "java/lang/invoke/VarHandle" ∧ (parseMethodDescriptor yX2_learn.desc).map (fun d => d.parameters.length) = some 1 := by decide +kernel
/-! CoverOrder.Covers reachedCount -/
set_option maxRecDepth 100000 in
set_option maxHeartbeats 4000000 in
theorem c_X2_reachedCount (l : Launch) (G : va_G) (cI cZ cE : ClassId) (a_t : Nat) (k_t_grid : Int64) (k_t_covered : Int64) (k_t_coverers : Int64) (k_t_reached : Int32) (R : Int32) (hm : mX2_reachedCount k_t_reached = R) : kM l yX2_reachedCount wsX2_reachedCount { frames := 1, cells := 0, slots := 0, locals := 20 } G cI cZ cE [.ref a_t] [(a_t, .inr (1, [.long k_t_grid, .long k_t_covered, .long k_t_coverers, .int k_t_reached]))] [(a_t, .inr (1, [.long k_t_grid, .long k_t_covered, .long k_t_coverers, .int k_t_reached]))] (some (.int R)) := by
  refine kM_of cX2_reachedCount 1 (some .int) RX2 (by decide) rfl rfl (Nat.le_of_ble_eq_true rfl) ?_
  intro p e s m below meth c A ls X hA hP hD hS hl
  have hx := X.1.1
  have hb := X.1.2.1
  have hts := X.1.2.2.2.2
  have hown := X.1.2.2.2.1
  have hK := X.2.2.2.1
  have l_21 : (.fieldLink RX2 21 "CoverOrder$Covers" "reached" "I" : Cond).before _ s = true := hts _ (List.mem_of_getElem? (i := 1) (by decide +kernel))
  have i_X2 : ∀ w ∈ u_ws RX2 TX2 4, w ∈ wsX2_reachedCount := k_in _ [9, 10, 11, 12] (by decide +kernel)
  have hl : lv_has ls 1 [(0, .ref a_t)] := hl
  rw [mX2_reachedCount] at hm
  refine lv_aload_n hx hb dX2_reachedCount_0 rfl (lv_at hl 0 rfl) ?_
  refine va_get (D := G) (ci := 1) (v := .int k_t_reached) (C := RX2) (T := TX2) (N := 4) hx hb hts i_X2 hown hK hP 0 rfl rfl 3 (by decide) l_21 (fun _ h9 => h9) rfl dX2_reachedCount_1 ?_
  refine kcS0 (st1 := [.int (mJ6_bitCount_0f7a4 k_t_reached)]) X hA (c_J6_bitCount_0f7a4 l G cI cZ cE k_t_reached _ rfl) (va_cwS 1 hts gX2_reachedCount_J6_bitCount_0f7a4 rfl rfl rfl hd_J6_bitCount_0f7a4 ⟨Nat.le_of_ble_eq_true rfl, Nat.le_of_ble_eq_true rfl⟩) hl.1 dX2_reachedCount_4 hP hD hS [] rfl rfl rfl [] rfl (Nat.le_of_ble_eq_true rfl) rfl ⟨Nat.zero_le _, Nat.zero_le _⟩ (fun H locs hP hD hS => ?_)
  subst hm
  exact k_iret (v := (mJ6_bitCount_0f7a4 k_t_reached)) X rfl dX2_reachedCount_7 hP hD hS
theorem hd_X2_reachedCount : yX2_reachedCount.cls = RX2 ∧ yX2_reachedCount.cls ≠ "java/lang/invoke/MethodHandle" ∧ yX2_reachedCount.cls ≠ "java/lang/invoke/VarHandle" ∧ (parseMethodDescriptor yX2_reachedCount.desc).map (fun d => d.parameters.length) = some 0 := by decide +kernel
/-! CoverOrder.Covers coveredBy -/
set_option maxRecDepth 100000 in
set_option maxHeartbeats 4000000 in
theorem c_X2_coveredBy (l : Launch) (G : va_G) (cI cZ cE : ClassId) (a_t : Nat) (k_t_grid : Int64) (k_t_covered : Int64) (k_t_coverers : Int64) (k_t_reached : Int32) (p1 : Int32) (R : Int32) (hm : mX2_coveredBy k_t_covered p1 = R) : kM l yX2_coveredBy wsX2_coveredBy { frames := 1, cells := 0, slots := 0, locals := 22 } G cI cZ cE [.ref a_t, .int p1] [(a_t, .inr (1, [.long k_t_grid, .long k_t_covered, .long k_t_coverers, .int k_t_reached]))] [(a_t, .inr (1, [.long k_t_grid, .long k_t_covered, .long k_t_coverers, .int k_t_reached]))] (some (.int R)) := by
  refine kM_of cX2_coveredBy 2 (some .int) RX2 (by decide) rfl rfl (Nat.le_of_ble_eq_true rfl) ?_
  intro p e s m below meth c A ls X hA hP hD hS hl
  have hx := X.1.1
  have hb := X.1.2.1
  have hts := X.1.2.2.2.2
  have hown := X.1.2.2.2.1
  have hK := X.2.2.2.1
  have l_24 : (.fieldLink RX2 24 "CoverOrder$Covers" "covered" "J" : Cond).before _ s = true := hts _ (List.mem_of_getElem? (i := 1) (by decide +kernel))
  have i_X2 : ∀ w ∈ u_ws RX2 TX2 4, w ∈ wsX2_coveredBy := k_in _ [6, 7, 8, 9] (by decide +kernel)
  have hl : lv_has ls 2 [(0, .ref a_t), (1, .int p1)] := hl
  rw [mX2_coveredBy] at hm
  refine lv_aload_n hx hb dX2_coveredBy_0 rfl (lv_at hl 0 rfl) ?_
  refine va_get (D := G) (ci := 1) (v := .long k_t_covered) (C := RX2) (T := TX2) (N := 4) hx hb hts i_X2 hown hK hP 0 rfl rfl 1 (by decide) l_24 (fun _ h9 => h9) rfl dX2_coveredBy_1 ?_
  refine lv_iload_n hx hb dX2_coveredBy_4 rfl (lv_at hl 1 rfl) ?_
  refine kcS0 (st1 := [.int (mX5_line k_t_covered p1)]) X hA (c_X5_line l G cI cZ cE k_t_covered p1 _ rfl) (va_cwS 2 hts gX2_coveredBy_X5_line rfl rfl rfl hd_X5_line ⟨Nat.le_of_ble_eq_true rfl, Nat.le_of_ble_eq_true rfl⟩) hl.1 dX2_coveredBy_5 hP hD hS [] rfl rfl rfl [] rfl (Nat.le_of_ble_eq_true rfl) rfl ⟨Nat.zero_le _, Nat.zero_le _⟩ (fun H locs hP hD hS => ?_)
  subst hm
  exact k_iret (v := (mX5_line k_t_covered p1)) X rfl dX2_coveredBy_8 hP hD hS
theorem hd_X2_coveredBy : yX2_coveredBy.cls = RX2 ∧ yX2_coveredBy.cls ≠ "java/lang/invoke/MethodHandle" ∧ yX2_coveredBy.cls ≠ "java/lang/invoke/VarHandle" ∧ (parseMethodDescriptor yX2_coveredBy.desc).map (fun d => d.parameters.length) = some 1 := by decide +kernel
/-! CoverOrder.Covers coverersOf -/
set_option maxRecDepth 100000 in
set_option maxHeartbeats 4000000 in
theorem c_X2_coverersOf (l : Launch) (G : va_G) (cI cZ cE : ClassId) (a_t : Nat) (k_t_grid : Int64) (k_t_covered : Int64) (k_t_coverers : Int64) (k_t_reached : Int32) (p1 : Int32) (R : Int32) (hm : mX2_coverersOf k_t_coverers p1 = R) : kM l yX2_coverersOf wsX2_coverersOf { frames := 1, cells := 0, slots := 0, locals := 22 } G cI cZ cE [.ref a_t, .int p1] [(a_t, .inr (1, [.long k_t_grid, .long k_t_covered, .long k_t_coverers, .int k_t_reached]))] [(a_t, .inr (1, [.long k_t_grid, .long k_t_covered, .long k_t_coverers, .int k_t_reached]))] (some (.int R)) := by
  refine kM_of cX2_coverersOf 2 (some .int) RX2 (by decide) rfl rfl (Nat.le_of_ble_eq_true rfl) ?_
  intro p e s m below meth c A ls X hA hP hD hS hl
  have hx := X.1.1
  have hb := X.1.2.1
  have hts := X.1.2.2.2.2
  have hown := X.1.2.2.2.1
  have hK := X.2.2.2.1
  have l_43 : (.fieldLink RX2 43 "CoverOrder$Covers" "coverers" "J" : Cond).before _ s = true := hts _ (List.mem_of_getElem? (i := 1) (by decide +kernel))
  have i_X2 : ∀ w ∈ u_ws RX2 TX2 4, w ∈ wsX2_coverersOf := k_in _ [6, 7, 8, 9] (by decide +kernel)
  have hl : lv_has ls 2 [(0, .ref a_t), (1, .int p1)] := hl
  rw [mX2_coverersOf] at hm
  refine lv_aload_n hx hb dX2_coverersOf_0 rfl (lv_at hl 0 rfl) ?_
  refine va_get (D := G) (ci := 1) (v := .long k_t_coverers) (C := RX2) (T := TX2) (N := 4) hx hb hts i_X2 hown hK hP 0 rfl rfl 2 (by decide) l_43 (fun _ h9 => h9) rfl dX2_coverersOf_1 ?_
  refine lv_iload_n hx hb dX2_coverersOf_4 rfl (lv_at hl 1 rfl) ?_
  refine kcS0 (st1 := [.int (mX5_line k_t_coverers p1)]) X hA (c_X5_line l G cI cZ cE k_t_coverers p1 _ rfl) (va_cwS 2 hts gX2_coverersOf_X5_line rfl rfl rfl hd_X5_line ⟨Nat.le_of_ble_eq_true rfl, Nat.le_of_ble_eq_true rfl⟩) hl.1 dX2_coverersOf_5 hP hD hS [] rfl rfl rfl [] rfl (Nat.le_of_ble_eq_true rfl) rfl ⟨Nat.zero_le _, Nat.zero_le _⟩ (fun H locs hP hD hS => ?_)
  subst hm
  exact k_iret (v := (mX5_line k_t_coverers p1)) X rfl dX2_coverersOf_8 hP hD hS
theorem hd_X2_coverersOf : yX2_coverersOf.cls = RX2 ∧ yX2_coverersOf.cls ≠ "java/lang/invoke/MethodHandle" ∧ yX2_coverersOf.cls ≠ "java/lang/invoke/VarHandle" ∧ (parseMethodDescriptor yX2_coverersOf.desc).map (fun d => d.parameters.length) = some 1 := by decide +kernel
/-! CoverOrder.Covers coveredByJust -/
set_option maxRecDepth 100000 in
set_option maxHeartbeats 4000000 in
theorem c_X2_coveredByJust (l : Launch) (G : va_G) (cI cZ cE : ClassId) (a_t : Nat) (k_t_grid : Int64) (k_t_covered : Int64) (k_t_coverers : Int64) (k_t_reached : Int32) (p1 : Int32) (R : Int32) (hm : mX2_coveredByJust k_t_coverers p1 = some R) : kM l yX2_coveredByJust wsX2_coveredByJust { frames := 1, cells := 0, slots := 0, locals := 22 } G cI cZ cE [.ref a_t, .int p1] [(a_t, .inr (1, [.long k_t_grid, .long k_t_covered, .long k_t_coverers, .int k_t_reached]))] [(a_t, .inr (1, [.long k_t_grid, .long k_t_covered, .long k_t_coverers, .int k_t_reached]))] (some (.int R)) := by
  refine kM_of cX2_coveredByJust 3 (some .int) RX2 (by decide) rfl rfl (Nat.le_of_ble_eq_true rfl) ?_
  intro p e s m below meth c A ls X hA hP hD hS hl
  have hx := X.1.1
  have hb := X.1.2.1
  have hts := X.1.2.2.2.2
  have hown := X.1.2.2.2.1
  have hK := X.2.2.2.1
  have l_43 : (.fieldLink RX2 43 "CoverOrder$Covers" "coverers" "J" : Cond).before _ s = true := hts _ (List.mem_of_getElem? (i := 1) (by decide +kernel))
  have i_X2 : ∀ w ∈ u_ws RX2 TX2 4, w ∈ wsX2_coveredByJust := k_in _ [6, 7, 8, 9] (by decide +kernel)
  have hl : lv_has ls 3 [(0, .ref a_t), (1, .int p1)] := hl
  rw [mX2_coveredByJust] at hm
  refine lv_iconst (v := 0) hx hb dX2_coveredByJust_0 (by decide) ?_
  refine lv_istore_n (lv' := [(2, .int 0), (0, .ref a_t), (1, .int p1)]) hx hb dX2_coveredByJust_1 rfl hl (by decide) rfl (fun ls hl => ?_)
  have h2 : ∀ (n2 : Nat), ∀ (v2_2 : Int32) (H : Heap) (locs : List Loc) (ls : Array Slot), va_P G vwCl [(a_t, .inr (1, [.long k_t_grid, .long k_t_covered, .long k_t_coverers, .int k_t_reached]))] H → va_D A [(a_t, .inr (1, [.long k_t_grid, .long k_t_covered, .long k_t_coverers, .int k_t_reached]))] → va_S A s.heap H locs → lv_has ls 3 [(0, .ref a_t), (1, .int p1), (2, .int v2_2)] → mX2_coveredByJust_L2 k_t_coverers p1 n2 v2_2 = some R → W p l e { frames := 1, cells := 0, slots := 0, locals := 22 } s m ([.ref a_t, .int p1] : List Value).toArray below meth c H locs 0 0 (kQ below G [(a_t, .inr (1, [.long k_t_grid, .long k_t_covered, .long k_t_coverers, .int k_t_reached]))] (some (.int R)) A ([.ref a_t, .int p1] : List Value).toArray s) (F0 m 2 ls []) := by
    intro n2
    induction n2 with
    | zero => intro v2_2 H locs ls hP hD hS hl hm; rw [mX2_coveredByJust_L2] at hm; cases hm
    | succ n2 ih2 =>
      intro v2_2 H locs ls hP hD hS hl hm
      rw [mX2_coveredByJust_L2] at hm
      refine lv_iload_n hx hb dX2_coveredByJust_2 rfl (lv_at hl 2 rfl) ?_
      refine lv_bipush (v := 8) hx hb dX2_coveredByJust_3 (by decide) ?_
      refine lv_icmp_ge (tgt := 32) hx hb dX2_coveredByJust_5 (by decide) (fun c5 => ?_) (fun c5 => ?_)
      · rw [if_pos c5] at hm
        refine lv_bipush (v := (-9)) hx hb dX2_coveredByJust_32 (by decide) ?_
        have hm := Option.some.inj hm
        subst hm
        exact k_iret (v := (-9)) X rfl dX2_coveredByJust_34 hP hD hS
      · rw [if_neg c5] at hm
        refine lv_iload_n hx hb dX2_coveredByJust_8 rfl (lv_at hl 1 rfl) ?_
        refine lv_if_eq (tgt := 26) hx hb dX2_coveredByJust_9 (by decide) (fun c9 => ?_) (fun c9 => ?_)
        · rw [if_pos c9] at hm
          refine lv_iinc (v := v2_2 + 1) (lv' := [(2, .int (v2_2 + 1)), (0, .ref a_t), (1, .int p1)]) hx hb dX2_coveredByJust_26 hl (k := 2) rfl rfl (by decide) rfl (fun ls hl => ?_)
          refine lv_goto (tgt := 2) hx hb dX2_coveredByJust_29 (by decide) ?_
          exact ih2 (v2_2 + 1) _ _ _ hP hD hS (lv_sub hl [1, 2, 0] rfl) hm
        · rw [if_neg c9] at hm
          refine lv_aload_n hx hb dX2_coveredByJust_12 rfl (lv_at hl 0 rfl) ?_
          refine va_get (D := G) (ci := 1) (v := .long k_t_coverers) (C := RX2) (T := TX2) (N := 4) hx hb hts i_X2 hown hK hP 0 rfl rfl 2 (by decide) l_43 (fun _ h9 => h9) rfl dX2_coveredByJust_13 ?_
          refine lv_iload_n hx hb dX2_coveredByJust_16 rfl (lv_at hl 2 rfl) ?_
          refine kcS0 (st1 := [.int (mX5_line k_t_coverers v2_2)]) X hA (c_X5_line l G cI cZ cE k_t_coverers v2_2 _ rfl) (va_cwS 2 hts gX2_coveredByJust_X5_line rfl rfl rfl hd_X5_line ⟨Nat.le_of_ble_eq_true rfl, Nat.le_of_ble_eq_true rfl⟩) hl.1 dX2_coveredByJust_17 hP hD hS [] rfl rfl rfl [] rfl (Nat.le_of_ble_eq_true rfl) rfl ⟨Nat.zero_le _, Nat.zero_le _⟩ (fun H locs hP hD hS => ?_)
          refine lv_iload_n hx hb dX2_coveredByJust_20 rfl (lv_at hl 1 rfl) ?_
          refine lv_icmp_ne (tgt := 26) hx hb dX2_coveredByJust_21 (by decide) (fun c21 => ?_) (fun c21 => ?_)
          · rw [if_neg c21] at hm
            refine lv_iinc (v := v2_2 + 1) (lv' := [(2, .int (v2_2 + 1)), (0, .ref a_t), (1, .int p1)]) hx hb dX2_coveredByJust_26 hl (k := 2) rfl rfl (by decide) rfl (fun ls hl => ?_)
            refine lv_goto (tgt := 2) hx hb dX2_coveredByJust_29 (by decide) ?_
            exact ih2 (v2_2 + 1) _ _ _ hP hD hS (lv_sub hl [1, 2, 0] rfl) hm
          · rw [if_pos c21] at hm
            refine lv_iload_n hx hb dX2_coveredByJust_24 rfl (lv_at hl 2 rfl) ?_
            have hm := Option.some.inj hm
            subst hm
            exact k_iret (v := v2_2) X rfl dX2_coveredByJust_25 hP hD hS
  exact h2 kFU 0 _ _ _ hP hD hS (lv_sub hl [1, 2, 0] rfl) hm
theorem hd_X2_coveredByJust : yX2_coveredByJust.cls = RX2 ∧ yX2_coveredByJust.cls ≠ "java/lang/invoke/MethodHandle" ∧ yX2_coveredByJust.cls ≠ "java/lang/invoke/VarHandle" ∧ (parseMethodDescriptor yX2_coveredByJust.desc).map (fun d => d.parameters.length) = some 1 := by decide +kernel
/-! CoverOrder.Covers lidOf -/
set_option maxRecDepth 100000 in
set_option maxHeartbeats 4000000 in
theorem c_X2_lidOf (l : Launch) (G : va_G) (cI cZ cE : ClassId) (a_t : Nat) (k_t_grid : Int64) (k_t_covered : Int64) (k_t_coverers : Int64) (k_t_reached : Int32) (p1 : Int32) (R : Int32) (hm : mX2_lidOf k_t_coverers p1 = some R) : kM l yX2_lidOf wsX2_lidOf { frames := 2, cells := 0, slots := 0, locals := 44 } G cI cZ cE [.ref a_t, .int p1] [(a_t, .inr (1, [.long k_t_grid, .long k_t_covered, .long k_t_coverers, .int k_t_reached]))] [(a_t, .inr (1, [.long k_t_grid, .long k_t_covered, .long k_t_coverers, .int k_t_reached]))] (some (.int R)) := by
  refine kM_of cX2_lidOf 2 (some .int) RX2 (by decide) rfl rfl (Nat.le_of_ble_eq_true rfl) ?_
  intro p e s m below meth c A ls X hA hP hD hS hl
  have hx := X.1.1
  have hb := X.1.2.1
  have hts := X.1.2.2.2.2
  have hown := X.1.2.2.2.1
  have hK := X.2.2.2.1
  have hl : lv_has ls 2 [(0, .ref a_t), (1, .int p1)] := hl
  rw [mX2_lidOf] at hm
  refine lv_aload_n hx hb dX2_lidOf_0 rfl (lv_at hl 0 rfl) ?_
  refine lv_aload_n hx hb dX2_lidOf_1 rfl (lv_at hl 0 rfl) ?_
  refine lv_iload_n hx hb dX2_lidOf_2 rfl (lv_at hl 1 rfl) ?_
  refine kcV0 (st1 := [.int (mX2_coverersOf k_t_coverers p1), .ref a_t]) X hA (c_X2_coverersOf l G cI cZ cE a_t k_t_grid k_t_covered k_t_coverers k_t_reached p1 _ rfl) (cwV 1 hts gX2_lidOf_X2_coverersOf rfl rfl rfl hd_X2_coverersOf ⟨Nat.le_of_ble_eq_true rfl, Nat.le_of_ble_eq_true rfl⟩) 0 1 rfl rfl hl.1 dX2_lidOf_3 hP hD hS [0] rfl rfl rfl [.ref a_t] rfl (Nat.le_of_ble_eq_true rfl) rfl ⟨Nat.zero_le _, Nat.zero_le _⟩ (fun H locs hP hD hS => ?_)
  refine lv_iload_n hx hb dX2_lidOf_6 rfl (lv_at hl 1 rfl) ?_
  refine kcS0 (st1 := [.int (mX5_only p1), .int (mX2_coverersOf k_t_coverers p1), .ref a_t]) X hA (c_X5_only l G cI cZ cE p1 _ rfl) (va_cwS 1 hts gX2_lidOf_X5_only rfl rfl rfl hd_X5_only ⟨Nat.le_of_ble_eq_true rfl, Nat.le_of_ble_eq_true rfl⟩) hl.1 dX2_lidOf_7 hP hD hS [] rfl rfl rfl [.int (mX2_coverersOf k_t_coverers p1), .ref a_t] rfl (Nat.le_of_ble_eq_true rfl) rfl ⟨Nat.zero_le _, Nat.zero_le _⟩ (fun H locs hP hD hS => ?_)
  refine lv_iconst (v := (-1)) hx hb dX2_lidOf_10 (by decide) ?_
  refine lv_ixor hx hb dX2_lidOf_11 ?_
  refine lv_iand hx hb dX2_lidOf_12 ?_
  obtain ⟨r13, hc13, hm⟩ := kbind hm
  refine kcV0 (st1 := [.int r13]) X hA (c_X2_coveredByJust l G cI cZ cE a_t k_t_grid k_t_covered k_t_coverers k_t_reached ((mX2_coverersOf k_t_coverers p1) &&& ((mX5_only p1) ^^^ (-1))) r13 hc13) (cwV 1 hts gX2_lidOf_X2_coveredByJust rfl rfl rfl hd_X2_coveredByJust ⟨Nat.le_of_ble_eq_true rfl, Nat.le_of_ble_eq_true rfl⟩) 0 1 rfl rfl hl.1 dX2_lidOf_13 hP hD hS [0] rfl rfl rfl [] rfl (Nat.le_of_ble_eq_true rfl) rfl ⟨Nat.zero_le _, Nat.zero_le _⟩ (fun H locs hP hD hS => ?_)
  have hm := Option.some.inj hm
  subst hm
  exact k_iret (v := r13) X rfl dX2_lidOf_16 hP hD hS
theorem hd_X2_lidOf : yX2_lidOf.cls = RX2 ∧ yX2_lidOf.cls ≠ "java/lang/invoke/MethodHandle" ∧ yX2_lidOf.cls ≠ "java/lang/invoke/VarHandle" ∧ (parseMethodDescriptor yX2_lidOf.desc).map (fun d => d.parameters.length) = some 1 := by decide +kernel
/-! CoverOrder.Covers depthOf -/
set_option maxRecDepth 100000 in
set_option maxHeartbeats 4000000 in
theorem c_X2_depthOf (l : Launch) (G : va_G) (cI cZ cE : ClassId) (a_t : Nat) (k_t_grid : Int64) (k_t_covered : Int64) (k_t_coverers : Int64) (k_t_reached : Int32) (p1 : Int32) (R : Int32) (hm : mX2_depthOf k_t_coverers k_t_reached p1 = R) : kM l yX2_depthOf wsX2_depthOf { frames := 2, cells := 0, slots := 0, locals := 43 } G cI cZ cE [.ref a_t, .int p1] [(a_t, .inr (1, [.long k_t_grid, .long k_t_covered, .long k_t_coverers, .int k_t_reached]))] [(a_t, .inr (1, [.long k_t_grid, .long k_t_covered, .long k_t_coverers, .int k_t_reached]))] (some (.int R)) := by
  refine kM_of cX2_depthOf 2 (some .int) RX2 (by decide) rfl rfl (Nat.le_of_ble_eq_true rfl) ?_
  intro p e s m below meth c A ls X hA hP hD hS hl
  have hx := X.1.1
  have hb := X.1.2.1
  have hts := X.1.2.2.2.2
  have hown := X.1.2.2.2.1
  have hK := X.2.2.2.1
  have hl : lv_has ls 2 [(0, .ref a_t), (1, .int p1)] := hl
  rw [mX2_depthOf] at hm
  refine lv_aload_n hx hb dX2_depthOf_0 rfl (lv_at hl 0 rfl) ?_
  refine lv_iload_n hx hb dX2_depthOf_1 rfl (lv_at hl 1 rfl) ?_
  refine kcV0 (st1 := [.int (bI (mX2_isReached k_t_reached p1))]) X hA (c_X2_isReached l G cI cZ cE a_t k_t_grid k_t_covered k_t_coverers k_t_reached p1 _ rfl) (cwV 1 hts gX2_depthOf_X2_isReached rfl rfl rfl hd_X2_isReached ⟨Nat.le_of_ble_eq_true rfl, Nat.le_of_ble_eq_true rfl⟩) 0 1 rfl rfl hl.1 dX2_depthOf_2 hP hD hS [0] rfl rfl rfl [] rfl (Nat.le_of_ble_eq_true rfl) rfl ⟨Nat.zero_le _, Nat.zero_le _⟩ (fun H locs hP hD hS => ?_)
  refine lv_if_eq (tgt := 21) hx hb dX2_depthOf_5 (by decide) (fun c5 => ?_) (fun c5 => ?_)
  · have c5 := kb0 c5
    rw [if_neg c5] at hm
    refine lv_bipush (v := (-9)) hx hb dX2_depthOf_21 (by decide) ?_
    subst hm
    exact k_iret (v := (-9)) X rfl dX2_depthOf_23 hP hD hS
  · have c5 := kb1 c5
    rw [if_pos c5] at hm
    refine lv_aload_n hx hb dX2_depthOf_8 rfl (lv_at hl 0 rfl) ?_
    refine lv_iload_n hx hb dX2_depthOf_9 rfl (lv_at hl 1 rfl) ?_
    refine kcV0 (st1 := [.int (mX2_coverersOf k_t_coverers p1)]) X hA (c_X2_coverersOf l G cI cZ cE a_t k_t_grid k_t_covered k_t_coverers k_t_reached p1 _ rfl) (cwV 1 hts gX2_depthOf_X2_coverersOf rfl rfl rfl hd_X2_coverersOf ⟨Nat.le_of_ble_eq_true rfl, Nat.le_of_ble_eq_true rfl⟩) 0 1 rfl rfl hl.1 dX2_depthOf_10 hP hD hS [0] rfl rfl rfl [] rfl (Nat.le_of_ble_eq_true rfl) rfl ⟨Nat.zero_le _, Nat.zero_le _⟩ (fun H locs hP hD hS => ?_)
    refine kcS0 (st1 := [.int (mJ6_bitCount_0f7a4 (mX2_coverersOf k_t_coverers p1))]) X hA (c_J6_bitCount_0f7a4 l G cI cZ cE (mX2_coverersOf k_t_coverers p1) _ rfl) (va_cwS 1 hts gX2_depthOf_J6_bitCount_0f7a4 rfl rfl rfl hd_J6_bitCount_0f7a4 ⟨Nat.le_of_ble_eq_true rfl, Nat.le_of_ble_eq_true rfl⟩) hl.1 dX2_depthOf_13 hP hD hS [] rfl rfl rfl [] rfl (Nat.le_of_ble_eq_true rfl) rfl ⟨Nat.zero_le _, Nat.zero_le _⟩ (fun H locs hP hD hS => ?_)
    refine lv_iconst (v := 1) hx hb dX2_depthOf_16 (by decide) ?_
    refine lv_isub hx hb dX2_depthOf_17 ?_
    refine lv_goto (tgt := 23) hx hb dX2_depthOf_18 (by decide) ?_
    subst hm
    exact k_iret (v := (mJ6_bitCount_0f7a4 (mX2_coverersOf k_t_coverers p1)) - 1) X rfl dX2_depthOf_23 hP hD hS
theorem hd_X2_depthOf : yX2_depthOf.cls = RX2 ∧ yX2_depthOf.cls ≠ "java/lang/invoke/MethodHandle" ∧ yX2_depthOf.cls ≠ "java/lang/invoke/VarHandle" ∧ (parseMethodDescriptor yX2_depthOf.desc).map (fun d => d.parameters.length) = some 1 := by decide +kernel
/-! CoverOrder.Covers depthSum -/
set_option maxRecDepth 100000 in
set_option maxHeartbeats 4000000 in
theorem c_X2_depthSum (l : Launch) (G : va_G) (cI cZ cE : ClassId) (a_t : Nat) (k_t_grid : Int64) (k_t_covered : Int64) (k_t_coverers : Int64) (k_t_reached : Int32) (R : Int32) (hm : mX2_depthSum k_t_coverers k_t_reached = some R) : kM l yX2_depthSum wsX2_depthSum { frames := 3, cells := 0, slots := 0, locals := 64 } G cI cZ cE [.ref a_t] [(a_t, .inr (1, [.long k_t_grid, .long k_t_covered, .long k_t_coverers, .int k_t_reached]))] [(a_t, .inr (1, [.long k_t_grid, .long k_t_covered, .long k_t_coverers, .int k_t_reached]))] (some (.int R)) := by
  refine kM_of cX2_depthSum 3 (some .int) RX2 (by decide) rfl rfl (Nat.le_of_ble_eq_true rfl) ?_
  intro p e s m below meth c A ls X hA hP hD hS hl
  have hx := X.1.1
  have hb := X.1.2.1
  have hts := X.1.2.2.2.2
  have hown := X.1.2.2.2.1
  have hK := X.2.2.2.1
  have jl_67 : (.methodLink RX2 67 Lib.Math.max.name : Cond).before _ s = true := hts _ (List.mem_of_getElem? (i := 1) (by decide +kernel))
  have js_max : (.static Lib.Math.max.name : Cond).before _ s = true := hts _ (List.mem_of_getElem? (i := 2) (by decide +kernel))
  have ji : (.initialized "java/lang/Math" : Cond).before _ s = true := hts _ (List.mem_of_getElem? (i := 3) (by decide +kernel))
  have jc_max : (.code Lib.Math.max.name Lib.Math.max.code 2 (some .int) : Cond).before _ s = true := hts _ (List.mem_of_getElem? (i := 4) (by decide +kernel))
  have hl : lv_has ls 3 [(0, .ref a_t)] := hl
  rw [mX2_depthSum] at hm
  refine lv_iconst (v := 0) hx hb dX2_depthSum_0 (by decide) ?_
  refine lv_istore_n (lv' := [(1, .int 0), (0, .ref a_t)]) hx hb dX2_depthSum_1 rfl hl (by decide) rfl (fun ls hl => ?_)
  refine lv_iconst (v := 0) hx hb dX2_depthSum_2 (by decide) ?_
  refine lv_istore_n (lv' := [(2, .int 0), (1, .int 0), (0, .ref a_t)]) hx hb dX2_depthSum_3 rfl hl (by decide) rfl (fun ls hl => ?_)
  have h4 : ∀ (n4 : Nat), ∀ (v4_1 : Int32) (v4_2 : Int32) (H : Heap) (locs : List Loc) (ls : Array Slot), va_P G vwCl [(a_t, .inr (1, [.long k_t_grid, .long k_t_covered, .long k_t_coverers, .int k_t_reached]))] H → va_D A [(a_t, .inr (1, [.long k_t_grid, .long k_t_covered, .long k_t_coverers, .int k_t_reached]))] → va_S A s.heap H locs → lv_has ls 3 [(0, .ref a_t), (1, .int v4_1), (2, .int v4_2)] → mX2_depthSum_L4 k_t_coverers k_t_reached n4 v4_1 v4_2 = some R → W p l e { frames := 3, cells := 0, slots := 0, locals := 64 } s m ([.ref a_t] : List Value).toArray below meth c H locs 0 0 (kQ below G [(a_t, .inr (1, [.long k_t_grid, .long k_t_covered, .long k_t_coverers, .int k_t_reached]))] (some (.int R)) A ([.ref a_t] : List Value).toArray s) (F0 m 4 ls []) := by
    intro n4
    induction n4 with
    | zero => intro v4_1 v4_2 H locs ls hP hD hS hl hm; rw [mX2_depthSum_L4] at hm; cases hm
    | succ n4 ih4 =>
      intro v4_1 v4_2 H locs ls hP hD hS hl hm
      rw [mX2_depthSum_L4] at hm
      refine lv_iload_n hx hb dX2_depthSum_4 rfl (lv_at hl 2 rfl) ?_
      refine lv_bipush (v := 8) hx hb dX2_depthSum_5 (by decide) ?_
      refine lv_icmp_ge (tgt := 28) hx hb dX2_depthSum_7 (by decide) (fun c7 => ?_) (fun c7 => ?_)
      · rw [if_pos c7] at hm
        refine lv_iload_n hx hb dX2_depthSum_28 rfl (lv_at hl 1 rfl) ?_
        have hm := Option.some.inj hm
        subst hm
        exact k_iret (v := v4_1) X rfl dX2_depthSum_29 hP hD hS
      · rw [if_neg c7] at hm
        refine lv_iload_n hx hb dX2_depthSum_10 rfl (lv_at hl 1 rfl) ?_
        refine lv_aload_n hx hb dX2_depthSum_11 rfl (lv_at hl 0 rfl) ?_
        refine lv_iload_n hx hb dX2_depthSum_12 rfl (lv_at hl 2 rfl) ?_
        refine kcV0 (st1 := [.int (mX2_depthOf k_t_coverers k_t_reached v4_2), .int v4_1]) X hA (c_X2_depthOf l G cI cZ cE a_t k_t_grid k_t_covered k_t_coverers k_t_reached v4_2 _ rfl) (cwV 1 hts gX2_depthSum_X2_depthOf rfl rfl rfl hd_X2_depthOf ⟨Nat.le_of_ble_eq_true rfl, Nat.le_of_ble_eq_true rfl⟩) 0 1 rfl rfl hl.1 dX2_depthSum_13 hP hD hS [0] rfl rfl rfl [.int v4_1] rfl (Nat.le_of_ble_eq_true rfl) rfl ⟨Nat.zero_le _, Nat.zero_le _⟩ (fun H locs hP hD hS => ?_)
        refine lv_iconst (v := 0) hx hb dX2_depthSum_16 (by decide) ?_
        refine va_mmax hx hb (X.1.2.2.1.trans hl.1.symm) hown jl_67 js_max ji jc_max (Nat.le_of_ble_eq_true rfl) (Nat.le_of_ble_eq_true rfl) (Nat.zero_le _) (Nat.zero_le _) dX2_depthSum_17 ?_
        refine lv_topi (fun j17 ej17 => ?_)
        have ej17 : j17 = mmaxI (mX2_depthOf k_t_coverers k_t_reached v4_2) 0 := ej17
        subst ej17
        refine lv_iadd hx hb dX2_depthSum_20 ?_
        refine lv_istore_n (lv' := [(1, .int (v4_1 + (mmaxI (mX2_depthOf k_t_coverers k_t_reached v4_2) 0))), (0, .ref a_t), (2, .int v4_2)]) hx hb dX2_depthSum_21 rfl hl (by decide) rfl (fun ls hl => ?_)
        refine lv_iinc (v := v4_2 + 1) (lv' := [(2, .int (v4_2 + 1)), (1, .int (v4_1 + (mmaxI (mX2_depthOf k_t_coverers k_t_reached v4_2) 0))), (0, .ref a_t)]) hx hb dX2_depthSum_22 hl (k := 2) rfl rfl (by decide) rfl (fun ls hl => ?_)
        refine lv_goto (tgt := 4) hx hb dX2_depthSum_25 (by decide) ?_
        exact ih4 (v4_1 + (mmaxI (mX2_depthOf k_t_coverers k_t_reached v4_2) 0)) (v4_2 + 1) _ _ _ hP hD hS (lv_sub hl [2, 1, 0] rfl) hm
  exact h4 kFU 0 0 _ _ _ hP hD hS (lv_sub hl [2, 1, 0] rfl) hm
theorem hd_X2_depthSum : yX2_depthSum.cls = RX2 ∧ yX2_depthSum.cls ≠ "java/lang/invoke/MethodHandle" ∧ yX2_depthSum.cls ≠ "java/lang/invoke/VarHandle" ∧ (parseMethodDescriptor yX2_depthSum.desc).map (fun d => d.parameters.length) = some 0 := by decide +kernel
/-! CoverOrder.Covers greatestDepth -/
set_option maxRecDepth 100000 in
set_option maxHeartbeats 4000000 in
theorem c_X2_greatestDepth (l : Launch) (G : va_G) (cI cZ cE : ClassId) (a_t : Nat) (k_t_grid : Int64) (k_t_covered : Int64) (k_t_coverers : Int64) (k_t_reached : Int32) (R : Int32) (hm : mX2_greatestDepth k_t_coverers k_t_reached = some R) : kM l yX2_greatestDepth wsX2_greatestDepth { frames := 3, cells := 0, slots := 0, locals := 64 } G cI cZ cE [.ref a_t] [(a_t, .inr (1, [.long k_t_grid, .long k_t_covered, .long k_t_coverers, .int k_t_reached]))] [(a_t, .inr (1, [.long k_t_grid, .long k_t_covered, .long k_t_coverers, .int k_t_reached]))] (some (.int R)) := by
  refine kM_of cX2_greatestDepth 3 (some .int) RX2 (by decide) rfl rfl (Nat.le_of_ble_eq_true rfl) ?_
  intro p e s m below meth c A ls X hA hP hD hS hl
  have hx := X.1.1
  have hb := X.1.2.1
  have hts := X.1.2.2.2.2
  have hown := X.1.2.2.2.1
  have hK := X.2.2.2.1
  have jl_67 : (.methodLink RX2 67 Lib.Math.max.name : Cond).before _ s = true := hts _ (List.mem_of_getElem? (i := 1) (by decide +kernel))
  have js_max : (.static Lib.Math.max.name : Cond).before _ s = true := hts _ (List.mem_of_getElem? (i := 2) (by decide +kernel))
  have ji : (.initialized "java/lang/Math" : Cond).before _ s = true := hts _ (List.mem_of_getElem? (i := 3) (by decide +kernel))
  have jc_max : (.code Lib.Math.max.name Lib.Math.max.code 2 (some .int) : Cond).before _ s = true := hts _ (List.mem_of_getElem? (i := 4) (by decide +kernel))
  have hl : lv_has ls 3 [(0, .ref a_t)] := hl
  rw [mX2_greatestDepth] at hm
  refine lv_iconst (v := 0) hx hb dX2_greatestDepth_0 (by decide) ?_
  refine lv_istore_n (lv' := [(1, .int 0), (0, .ref a_t)]) hx hb dX2_greatestDepth_1 rfl hl (by decide) rfl (fun ls hl => ?_)
  refine lv_iconst (v := 0) hx hb dX2_greatestDepth_2 (by decide) ?_
  refine lv_istore_n (lv' := [(2, .int 0), (1, .int 0), (0, .ref a_t)]) hx hb dX2_greatestDepth_3 rfl hl (by decide) rfl (fun ls hl => ?_)
  have h4 : ∀ (n4 : Nat), ∀ (v4_1 : Int32) (v4_2 : Int32) (H : Heap) (locs : List Loc) (ls : Array Slot), va_P G vwCl [(a_t, .inr (1, [.long k_t_grid, .long k_t_covered, .long k_t_coverers, .int k_t_reached]))] H → va_D A [(a_t, .inr (1, [.long k_t_grid, .long k_t_covered, .long k_t_coverers, .int k_t_reached]))] → va_S A s.heap H locs → lv_has ls 3 [(0, .ref a_t), (1, .int v4_1), (2, .int v4_2)] → mX2_greatestDepth_L4 k_t_coverers k_t_reached n4 v4_1 v4_2 = some R → W p l e { frames := 3, cells := 0, slots := 0, locals := 64 } s m ([.ref a_t] : List Value).toArray below meth c H locs 0 0 (kQ below G [(a_t, .inr (1, [.long k_t_grid, .long k_t_covered, .long k_t_coverers, .int k_t_reached]))] (some (.int R)) A ([.ref a_t] : List Value).toArray s) (F0 m 4 ls []) := by
    intro n4
    induction n4 with
    | zero => intro v4_1 v4_2 H locs ls hP hD hS hl hm; rw [mX2_greatestDepth_L4] at hm; cases hm
    | succ n4 ih4 =>
      intro v4_1 v4_2 H locs ls hP hD hS hl hm
      rw [mX2_greatestDepth_L4] at hm
      refine lv_iload_n hx hb dX2_greatestDepth_4 rfl (lv_at hl 2 rfl) ?_
      refine lv_bipush (v := 8) hx hb dX2_greatestDepth_5 (by decide) ?_
      refine lv_icmp_ge (tgt := 26) hx hb dX2_greatestDepth_7 (by decide) (fun c7 => ?_) (fun c7 => ?_)
      · rw [if_pos c7] at hm
        refine lv_iload_n hx hb dX2_greatestDepth_26 rfl (lv_at hl 1 rfl) ?_
        have hm := Option.some.inj hm
        subst hm
        exact k_iret (v := v4_1) X rfl dX2_greatestDepth_27 hP hD hS
      · rw [if_neg c7] at hm
        refine lv_iload_n hx hb dX2_greatestDepth_10 rfl (lv_at hl 1 rfl) ?_
        refine lv_aload_n hx hb dX2_greatestDepth_11 rfl (lv_at hl 0 rfl) ?_
        refine lv_iload_n hx hb dX2_greatestDepth_12 rfl (lv_at hl 2 rfl) ?_
        refine kcV0 (st1 := [.int (mX2_depthOf k_t_coverers k_t_reached v4_2), .int v4_1]) X hA (c_X2_depthOf l G cI cZ cE a_t k_t_grid k_t_covered k_t_coverers k_t_reached v4_2 _ rfl) (cwV 1 hts gX2_greatestDepth_X2_depthOf rfl rfl rfl hd_X2_depthOf ⟨Nat.le_of_ble_eq_true rfl, Nat.le_of_ble_eq_true rfl⟩) 0 1 rfl rfl hl.1 dX2_greatestDepth_13 hP hD hS [0] rfl rfl rfl [.int v4_1] rfl (Nat.le_of_ble_eq_true rfl) rfl ⟨Nat.zero_le _, Nat.zero_le _⟩ (fun H locs hP hD hS => ?_)
        refine va_mmax hx hb (X.1.2.2.1.trans hl.1.symm) hown jl_67 js_max ji jc_max (Nat.le_of_ble_eq_true rfl) (Nat.le_of_ble_eq_true rfl) (Nat.zero_le _) (Nat.zero_le _) dX2_greatestDepth_16 ?_
        refine lv_topi (fun j16 ej16 => ?_)
        have ej16 : j16 = mmaxI v4_1 (mX2_depthOf k_t_coverers k_t_reached v4_2) := ej16
        subst ej16
        refine lv_istore_n (lv' := [(1, .int (mmaxI v4_1 (mX2_depthOf k_t_coverers k_t_reached v4_2))), (0, .ref a_t), (2, .int v4_2)]) hx hb dX2_greatestDepth_19 rfl hl (by decide) rfl (fun ls hl => ?_)
        refine lv_iinc (v := v4_2 + 1) (lv' := [(2, .int (v4_2 + 1)), (1, .int (mmaxI v4_1 (mX2_depthOf k_t_coverers k_t_reached v4_2))), (0, .ref a_t)]) hx hb dX2_greatestDepth_20 hl (k := 2) rfl rfl (by decide) rfl (fun ls hl => ?_)
        refine lv_goto (tgt := 4) hx hb dX2_greatestDepth_23 (by decide) ?_
        exact ih4 (mmaxI v4_1 (mX2_depthOf k_t_coverers k_t_reached v4_2)) (v4_2 + 1) _ _ _ hP hD hS (lv_sub hl [2, 1, 0] rfl) hm
  exact h4 kFU 0 0 _ _ _ hP hD hS (lv_sub hl [2, 1, 0] rfl) hm
theorem hd_X2_greatestDepth : yX2_greatestDepth.cls = RX2 ∧ yX2_greatestDepth.cls ≠ "java/lang/invoke/MethodHandle" ∧ yX2_greatestDepth.cls ≠ "java/lang/invoke/VarHandle" ∧ (parseMethodDescriptor yX2_greatestDepth.desc).map (fun d => d.parameters.length) = some 0 := by decide +kernel
/-! CoverOrder.Covers rimOf -/
set_option maxRecDepth 100000 in
set_option maxHeartbeats 4000000 in
theorem c_X2_rimOf (l : Launch) (G : va_G) (cI cZ cE : ClassId) (a_t : Nat) (k_t_grid : Int64) (k_t_covered : Int64) (k_t_coverers : Int64) (k_t_reached : Int32) (p1 : Int32) (R : Int32) (hm : mX2_rimOf k_t_grid k_t_covered p1 = some R) : kM l yX2_rimOf wsX2_rimOf { frames := 2, cells := 0, slots := 0, locals := 43 } G cI cZ cE [.ref a_t, .int p1] [(a_t, .inr (1, [.long k_t_grid, .long k_t_covered, .long k_t_coverers, .int k_t_reached]))] [(a_t, .inr (1, [.long k_t_grid, .long k_t_covered, .long k_t_coverers, .int k_t_reached]))] (some (.int R)) := by
  refine kM_of cX2_rimOf 5 (some .int) RX2 (by decide) rfl rfl (Nat.le_of_ble_eq_true rfl) ?_
  intro p e s m below meth c A ls X hA hP hD hS hl
  have hx := X.1.1
  have hb := X.1.2.1
  have hts := X.1.2.2.2.2
  have hown := X.1.2.2.2.1
  have hK := X.2.2.2.1
  have l_9 : (.fieldLink RX2 9 "CoverOrder$Covers" "grid" "J" : Cond).before _ s = true := hts _ (List.mem_of_getElem? (i := 1) (by decide +kernel))
  have i_X2 : ∀ w ∈ u_ws RX2 TX2 4, w ∈ wsX2_rimOf := k_in _ [18, 19, 20, 21] (by decide +kernel)
  have hl : lv_has ls 5 [(0, .ref a_t), (1, .int p1)] := hl
  rw [mX2_rimOf] at hm
  refine lv_aload_n hx hb dX2_rimOf_0 rfl (lv_at hl 0 rfl) ?_
  refine lv_iload_n hx hb dX2_rimOf_1 rfl (lv_at hl 1 rfl) ?_
  refine kcV0 (st1 := [.int (mX2_coveredBy k_t_covered p1)]) X hA (c_X2_coveredBy l G cI cZ cE a_t k_t_grid k_t_covered k_t_coverers k_t_reached p1 _ rfl) (cwV 1 hts gX2_rimOf_X2_coveredBy rfl rfl rfl hd_X2_coveredBy ⟨Nat.le_of_ble_eq_true rfl, Nat.le_of_ble_eq_true rfl⟩) 0 1 rfl rfl hl.1 dX2_rimOf_2 hP hD hS [0] rfl rfl rfl [] rfl (Nat.le_of_ble_eq_true rfl) rfl ⟨Nat.zero_le _, Nat.zero_le _⟩ (fun H locs hP hD hS => ?_)
  refine lv_istore_n (lv' := [(2, .int (mX2_coveredBy k_t_covered p1)), (0, .ref a_t), (1, .int p1)]) hx hb dX2_rimOf_5 rfl hl (by decide) rfl (fun ls hl => ?_)
  refine lv_iconst (v := 0) hx hb dX2_rimOf_6 (by decide) ?_
  refine lv_istore_n (lv' := [(3, .int 0), (2, .int (mX2_coveredBy k_t_covered p1)), (0, .ref a_t), (1, .int p1)]) hx hb dX2_rimOf_7 rfl hl (by decide) rfl (fun ls hl => ?_)
  refine lv_iconst (v := 0) hx hb dX2_rimOf_8 (by decide) ?_
  refine lv_istore (lv' := [(4, .int 0), (3, .int 0), (2, .int (mX2_coveredBy k_t_covered p1)), (0, .ref a_t), (1, .int p1)]) hx hb dX2_rimOf_9 hl (by decide) rfl (fun ls hl => ?_)
  have h11 : ∀ (n11 : Nat), ∀ (v11_3 : Int32) (v11_4 : Int32) (H : Heap) (locs : List Loc) (ls : Array Slot), va_P G vwCl [(a_t, .inr (1, [.long k_t_grid, .long k_t_covered, .long k_t_coverers, .int k_t_reached]))] H → va_D A [(a_t, .inr (1, [.long k_t_grid, .long k_t_covered, .long k_t_coverers, .int k_t_reached]))] → va_S A s.heap H locs → lv_has ls 5 [(0, .ref a_t), (1, .int p1), (2, .int (mX2_coveredBy k_t_covered p1)), (3, .int v11_3), (4, .int v11_4)] → mX2_rimOf_L11 k_t_grid k_t_covered p1 n11 v11_3 v11_4 = some R → W p l e { frames := 2, cells := 0, slots := 0, locals := 43 } s m ([.ref a_t, .int p1] : List Value).toArray below meth c H locs 0 0 (kQ below G [(a_t, .inr (1, [.long k_t_grid, .long k_t_covered, .long k_t_coverers, .int k_t_reached]))] (some (.int R)) A ([.ref a_t, .int p1] : List Value).toArray s) (F0 m 11 ls []) := by
    intro n11
    induction n11 with
    | zero => intro v11_3 v11_4 H locs ls hP hD hS hl hm; rw [mX2_rimOf_L11] at hm; cases hm
    | succ n11 ih11 =>
      intro v11_3 v11_4 H locs ls hP hD hS hl hm
      rw [mX2_rimOf_L11] at hm
      refine lv_iload hx hb dX2_rimOf_11 (lv_at hl 4 rfl) ?_
      refine lv_bipush (v := 8) hx hb dX2_rimOf_13 (by decide) ?_
      have h45 : ∀ (H : Heap) (locs : List Loc) (ls : Array Slot), va_P G vwCl [(a_t, .inr (1, [.long k_t_grid, .long k_t_covered, .long k_t_coverers, .int k_t_reached]))] H → va_D A [(a_t, .inr (1, [.long k_t_grid, .long k_t_covered, .long k_t_coverers, .int k_t_reached]))] → va_S A s.heap H locs → lv_has ls 5 [(1, .int p1), (2, .int (mX2_coveredBy k_t_covered p1)), (3, .int v11_3)] → mX2_rimOf_J45 k_t_covered p1 v11_3 = some R → W p l e { frames := 2, cells := 0, slots := 0, locals := 43 } s m ([.ref a_t, .int p1] : List Value).toArray below meth c H locs 0 0 (kQ below G [(a_t, .inr (1, [.long k_t_grid, .long k_t_covered, .long k_t_coverers, .int k_t_reached]))] (some (.int R)) A ([.ref a_t, .int p1] : List Value).toArray s) (F0 m 45 ls []) := by
        intro H locs ls hP hD hS hl hm
        rw [mX2_rimOf_J45] at hm
        refine lv_iload_n hx hb dX2_rimOf_45 rfl (lv_at hl 2 rfl) ?_
        refine lv_iload_n hx hb dX2_rimOf_46 rfl (lv_at hl 1 rfl) ?_
        refine lv_iconst (v := (-1)) hx hb dX2_rimOf_47 (by decide) ?_
        refine lv_ixor hx hb dX2_rimOf_48 ?_
        refine lv_iload_n hx hb dX2_rimOf_49 rfl (lv_at hl 0 rfl) ?_
        refine kcS0 (st1 := [.int (mX5_only p1), .int ((mX2_coveredBy k_t_covered p1) ^^^ (-1)), .int v11_3]) X hA (c_X5_only l G cI cZ cE p1 _ rfl) (va_cwS 1 hts gX2_rimOf_X5_only rfl rfl rfl hd_X5_only ⟨Nat.le_of_ble_eq_true rfl, Nat.le_of_ble_eq_true rfl⟩) hl.1 dX2_rimOf_50 hP hD hS [] rfl rfl rfl [.int ((mX2_coveredBy k_t_covered p1) ^^^ (-1)), .int v11_3] rfl (Nat.le_of_ble_eq_true rfl) rfl ⟨Nat.zero_le _, Nat.zero_le _⟩ (fun H locs hP hD hS => ?_)
        refine lv_ior hx hb dX2_rimOf_53 ?_
        refine lv_iand hx hb dX2_rimOf_54 ?_
        have hm := Option.some.inj hm
        subst hm
        exact k_iret (v := v11_3 &&& (((mX2_coveredBy k_t_covered p1) ^^^ (-1)) ||| (mX5_only p1))) X rfl dX2_rimOf_55 hP hD hS
      refine lv_icmp_ge (tgt := 45) hx hb dX2_rimOf_15 (by decide) (fun c15 => ?_) (fun c15 => ?_)
      · rw [if_pos c15] at hm
        exact h45 _ _ _ hP hD hS (lv_sub hl [1, 2, 3] rfl) hm
      · rw [if_neg c15] at hm
        refine lv_iload_n hx hb dX2_rimOf_18 rfl (lv_at hl 2 rfl) ?_
        refine lv_iload hx hb dX2_rimOf_19 (lv_at hl 4 rfl) ?_
        refine kcS0 (st1 := [.int (bI (mX5_isIn (mX2_coveredBy k_t_covered p1) v11_4))]) X hA (c_X5_isIn l G cI cZ cE (mX2_coveredBy k_t_covered p1) v11_4 _ rfl) (va_cwS 2 hts gX2_rimOf_X5_isIn rfl rfl rfl hd_X5_isIn ⟨Nat.le_of_ble_eq_true rfl, Nat.le_of_ble_eq_true rfl⟩) hl.1 dX2_rimOf_21 hP hD hS [] rfl rfl rfl [] rfl (Nat.le_of_ble_eq_true rfl) rfl ⟨Nat.zero_le _, Nat.zero_le _⟩ (fun H locs hP hD hS => ?_)
        refine lv_if_eq (tgt := 39) hx hb dX2_rimOf_24 (by decide) (fun c24 => ?_) (fun c24 => ?_)
        · have c24 := kb0 c24
          rw [if_neg c24] at hm
          refine lv_iinc (v := v11_4 + 1) (lv' := [(4, .int (v11_4 + 1)), (0, .ref a_t), (1, .int p1), (2, .int (mX2_coveredBy k_t_covered p1)), (3, .int v11_3)]) hx hb dX2_rimOf_39 hl (k := 4) rfl rfl (by decide) rfl (fun ls hl => ?_)
          refine lv_goto (tgt := 11) hx hb dX2_rimOf_42 (by decide) ?_
          exact ih11 v11_3 (v11_4 + 1) _ _ _ hP hD hS (lv_sub hl [1, 2, 3, 4, 0] rfl) hm
        · have c24 := kb1 c24
          rw [if_pos c24] at hm
          refine lv_iload_n hx hb dX2_rimOf_27 rfl (lv_at hl 3 rfl) ?_
          refine lv_aload_n hx hb dX2_rimOf_28 rfl (lv_at hl 0 rfl) ?_
          refine va_get (D := G) (ci := 1) (v := .long k_t_grid) (C := RX2) (T := TX2) (N := 4) hx hb hts i_X2 hown hK hP 0 rfl rfl 0 (by decide) l_9 (fun _ h9 => h9) rfl dX2_rimOf_29 ?_
          refine lv_iload hx hb dX2_rimOf_32 (lv_at hl 4 rfl) ?_
          refine kcS0 (st1 := [.int (mX5_line k_t_grid v11_4), .int v11_3]) X hA (c_X5_line l G cI cZ cE k_t_grid v11_4 _ rfl) (va_cwS 2 hts gX2_rimOf_X5_line rfl rfl rfl hd_X5_line ⟨Nat.le_of_ble_eq_true rfl, Nat.le_of_ble_eq_true rfl⟩) hl.1 dX2_rimOf_34 hP hD hS [] rfl rfl rfl [.int v11_3] rfl (Nat.le_of_ble_eq_true rfl) rfl ⟨Nat.zero_le _, Nat.zero_le _⟩ (fun H locs hP hD hS => ?_)
          refine lv_ior hx hb dX2_rimOf_37 ?_
          refine lv_istore_n (lv' := [(3, .int (v11_3 ||| (mX5_line k_t_grid v11_4))), (0, .ref a_t), (1, .int p1), (2, .int (mX2_coveredBy k_t_covered p1)), (4, .int v11_4)]) hx hb dX2_rimOf_38 rfl hl (by decide) rfl (fun ls hl => ?_)
          refine lv_iinc (v := v11_4 + 1) (lv' := [(4, .int (v11_4 + 1)), (3, .int (v11_3 ||| (mX5_line k_t_grid v11_4))), (0, .ref a_t), (1, .int p1), (2, .int (mX2_coveredBy k_t_covered p1))]) hx hb dX2_rimOf_39 hl (k := 4) rfl rfl (by decide) rfl (fun ls hl => ?_)
          refine lv_goto (tgt := 11) hx hb dX2_rimOf_42 (by decide) ?_
          exact ih11 (v11_3 ||| (mX5_line k_t_grid v11_4)) (v11_4 + 1) _ _ _ hP hD hS (lv_sub hl [2, 3, 4, 1, 0] rfl) hm
  exact h11 kFU 0 0 _ _ _ hP hD hS (lv_sub hl [3, 4, 2, 1, 0] rfl) hm
theorem hd_X2_rimOf : yX2_rimOf.cls = RX2 ∧ yX2_rimOf.cls ≠ "java/lang/invoke/MethodHandle" ∧ yX2_rimOf.cls ≠ "java/lang/invoke/VarHandle" ∧ (parseMethodDescriptor yX2_rimOf.desc).map (fun d => d.parameters.length) = some 1 := by decide +kernel
/-! CoverOrder.Covers changedIn -/
set_option maxRecDepth 100000 in
set_option maxHeartbeats 4000000 in
theorem c_X2_changedIn (l : Launch) (G : va_G) (cI cZ cE : ClassId) (a_t a_o0 : Nat) (k_t_grid : Int64) (k_t_covered : Int64) (k_t_coverers : Int64) (k_t_reached : Int32) (k_o0_grid : Int64) (k_o0_covered : Int64) (k_o0_coverers : Int64) (k_o0_reached : Int32) (R : Int32) (hm : mX2_changedIn k_t_coverers k_t_reached k_o0_coverers k_o0_reached = some R) : kM l yX2_changedIn wsX2_changedIn { frames := 3, cells := 0, slots := 0, locals := 65 } G cI cZ cE [.ref a_t, .ref a_o0] [(a_t, .inr (1, [.long k_t_grid, .long k_t_covered, .long k_t_coverers, .int k_t_reached])), (a_o0, .inr (1, [.long k_o0_grid, .long k_o0_covered, .long k_o0_coverers, .int k_o0_reached]))] [(a_t, .inr (1, [.long k_t_grid, .long k_t_covered, .long k_t_coverers, .int k_t_reached])), (a_o0, .inr (1, [.long k_o0_grid, .long k_o0_covered, .long k_o0_coverers, .int k_o0_reached]))] (some (.int R)) := by
  refine kM_of cX2_changedIn 4 (some .int) RX2 (by decide) rfl rfl (Nat.le_of_ble_eq_true rfl) ?_
  intro p e s m below meth c A ls X hA hP hD hS hl
  have hx := X.1.1
  have hb := X.1.2.1
  have hts := X.1.2.2.2.2
  have hown := X.1.2.2.2.1
  have hK := X.2.2.2.1
  have l_21 : (.fieldLink RX2 21 "CoverOrder$Covers" "reached" "I" : Cond).before _ s = true := hts _ (List.mem_of_getElem? (i := 1) (by decide +kernel))
  have i_X2 : ∀ w ∈ u_ws RX2 TX2 4, w ∈ wsX2_changedIn := k_in _ [23, 24, 25, 26] (by decide +kernel)
  have hl : lv_has ls 4 [(0, .ref a_t), (1, .ref a_o0)] := hl
  rw [mX2_changedIn] at hm
  refine lv_aload_n hx hb dX2_changedIn_0 rfl (lv_at hl 0 rfl) ?_
  refine va_get (D := G) (ci := 1) (v := .int k_t_reached) (C := RX2) (T := TX2) (N := 4) hx hb hts i_X2 hown hK hP 0 rfl rfl 3 (by decide) l_21 (fun _ h9 => h9) rfl dX2_changedIn_1 ?_
  refine lv_aload_n hx hb dX2_changedIn_4 rfl (lv_at hl 1 rfl) ?_
  refine va_get (D := G) (ci := 1) (v := .int k_o0_reached) (C := RX2) (T := TX2) (N := 4) hx hb hts i_X2 hown hK hP 1 rfl rfl 3 (by decide) l_21 (fun _ h9 => h9) rfl dX2_changedIn_5 ?_
  refine lv_ixor hx hb dX2_changedIn_8 ?_
  refine lv_istore_n (lv' := [(2, .int (k_t_reached ^^^ k_o0_reached)), (0, .ref a_t), (1, .ref a_o0)]) hx hb dX2_changedIn_9 rfl hl (by decide) rfl (fun ls hl => ?_)
  refine lv_iconst (v := 0) hx hb dX2_changedIn_10 (by decide) ?_
  refine lv_istore_n (lv' := [(3, .int 0), (2, .int (k_t_reached ^^^ k_o0_reached)), (0, .ref a_t), (1, .ref a_o0)]) hx hb dX2_changedIn_11 rfl hl (by decide) rfl (fun ls hl => ?_)
  have h12 : ∀ (n12 : Nat), ∀ (v12_2 : Int32) (v12_3 : Int32) (H : Heap) (locs : List Loc) (ls : Array Slot), va_P G vwCl [(a_t, .inr (1, [.long k_t_grid, .long k_t_covered, .long k_t_coverers, .int k_t_reached])), (a_o0, .inr (1, [.long k_o0_grid, .long k_o0_covered, .long k_o0_coverers, .int k_o0_reached]))] H → va_D A [(a_t, .inr (1, [.long k_t_grid, .long k_t_covered, .long k_t_coverers, .int k_t_reached])), (a_o0, .inr (1, [.long k_o0_grid, .long k_o0_covered, .long k_o0_coverers, .int k_o0_reached]))] → va_S A s.heap H locs → lv_has ls 4 [(0, .ref a_t), (1, .ref a_o0), (2, .int v12_2), (3, .int v12_3)] → mX2_changedIn_L12 k_t_coverers k_o0_coverers n12 v12_2 v12_3 = some R → W p l e { frames := 3, cells := 0, slots := 0, locals := 65 } s m ([.ref a_t, .ref a_o0] : List Value).toArray below meth c H locs 0 0 (kQ below G [(a_t, .inr (1, [.long k_t_grid, .long k_t_covered, .long k_t_coverers, .int k_t_reached])), (a_o0, .inr (1, [.long k_o0_grid, .long k_o0_covered, .long k_o0_coverers, .int k_o0_reached]))] (some (.int R)) A ([.ref a_t, .ref a_o0] : List Value).toArray s) (F0 m 12 ls []) := by
    intro n12
    induction n12 with
    | zero => intro v12_2 v12_3 H locs ls hP hD hS hl hm; rw [mX2_changedIn_L12] at hm; cases hm
    | succ n12 ih12 =>
      intro v12_2 v12_3 H locs ls hP hD hS hl hm
      rw [mX2_changedIn_L12] at hm
      refine lv_iload_n hx hb dX2_changedIn_12 rfl (lv_at hl 3 rfl) ?_
      refine lv_bipush (v := 8) hx hb dX2_changedIn_13 (by decide) ?_
      refine lv_icmp_ge (tgt := 44) hx hb dX2_changedIn_15 (by decide) (fun c15 => ?_) (fun c15 => ?_)
      · rw [if_pos c15] at hm
        refine lv_iload_n hx hb dX2_changedIn_44 rfl (lv_at hl 2 rfl) ?_
        have hm := Option.some.inj hm
        subst hm
        exact k_iret (v := v12_2) X rfl dX2_changedIn_45 hP hD hS
      · rw [if_neg c15] at hm
        refine lv_aload_n hx hb dX2_changedIn_18 rfl (lv_at hl 0 rfl) ?_
        refine lv_iload_n hx hb dX2_changedIn_19 rfl (lv_at hl 3 rfl) ?_
        obtain ⟨r20, hc20, hm⟩ := kbind hm
        refine kcV0 (st1 := [.int r20]) X hA (c_X2_lidOf l G cI cZ cE a_t k_t_grid k_t_covered k_t_coverers k_t_reached v12_3 r20 hc20) (cwV 1 hts gX2_changedIn_X2_lidOf rfl rfl rfl hd_X2_lidOf ⟨Nat.le_of_ble_eq_true rfl, Nat.le_of_ble_eq_true rfl⟩) 0 1 rfl rfl hl.1 dX2_changedIn_20 hP hD hS [0] rfl rfl rfl [] rfl (Nat.le_of_ble_eq_true rfl) rfl ⟨Nat.zero_le _, Nat.zero_le _⟩ (fun H locs hP hD hS => ?_)
        refine lv_aload_n hx hb dX2_changedIn_23 rfl (lv_at hl 1 rfl) ?_
        refine lv_iload_n hx hb dX2_changedIn_24 rfl (lv_at hl 3 rfl) ?_
        obtain ⟨r25, hc25, hm⟩ := kbind hm
        refine kcV0 (st1 := [.int r25, .int r20]) X hA (c_X2_lidOf l G cI cZ cE a_o0 k_o0_grid k_o0_covered k_o0_coverers k_o0_reached v12_3 r25 hc25) (cwV 1 hts gX2_changedIn_X2_lidOf rfl rfl rfl hd_X2_lidOf ⟨Nat.le_of_ble_eq_true rfl, Nat.le_of_ble_eq_true rfl⟩) 1 1 rfl rfl hl.1 dX2_changedIn_25 hP hD hS [1] rfl rfl rfl [.int r20] rfl (Nat.le_of_ble_eq_true rfl) rfl ⟨Nat.zero_le _, Nat.zero_le _⟩ (fun H locs hP hD hS => ?_)
        refine lv_icmp_eq (tgt := 38) hx hb dX2_changedIn_28 (by decide) (fun c28 => ?_) (fun c28 => ?_)
        · rw [if_pos c28] at hm
          refine lv_iinc (v := v12_3 + 1) (lv' := [(3, .int (v12_3 + 1)), (0, .ref a_t), (1, .ref a_o0), (2, .int v12_2)]) hx hb dX2_changedIn_38 hl (k := 3) rfl rfl (by decide) rfl (fun ls hl => ?_)
          refine lv_goto (tgt := 12) hx hb dX2_changedIn_41 (by decide) ?_
          exact ih12 v12_2 (v12_3 + 1) _ _ _ hP hD hS (lv_sub hl [1, 2, 3, 0] rfl) hm
        · rw [if_neg c28] at hm
          refine lv_iload_n hx hb dX2_changedIn_31 rfl (lv_at hl 2 rfl) ?_
          refine lv_iload_n hx hb dX2_changedIn_32 rfl (lv_at hl 3 rfl) ?_
          refine kcS0 (st1 := [.int (mX5_only v12_3), .int v12_2]) X hA (c_X5_only l G cI cZ cE v12_3 _ rfl) (va_cwS 1 hts gX2_changedIn_X5_only rfl rfl rfl hd_X5_only ⟨Nat.le_of_ble_eq_true rfl, Nat.le_of_ble_eq_true rfl⟩) hl.1 dX2_changedIn_33 hP hD hS [] rfl rfl rfl [.int v12_2] rfl (Nat.le_of_ble_eq_true rfl) rfl ⟨Nat.zero_le _, Nat.zero_le _⟩ (fun H locs hP hD hS => ?_)
          refine lv_ior hx hb dX2_changedIn_36 ?_
          refine lv_istore_n (lv' := [(2, .int (v12_2 ||| (mX5_only v12_3))), (0, .ref a_t), (1, .ref a_o0), (3, .int v12_3)]) hx hb dX2_changedIn_37 rfl hl (by decide) rfl (fun ls hl => ?_)
          refine lv_iinc (v := v12_3 + 1) (lv' := [(3, .int (v12_3 + 1)), (2, .int (v12_2 ||| (mX5_only v12_3))), (0, .ref a_t), (1, .ref a_o0)]) hx hb dX2_changedIn_38 hl (k := 3) rfl rfl (by decide) rfl (fun ls hl => ?_)
          refine lv_goto (tgt := 12) hx hb dX2_changedIn_41 (by decide) ?_
          exact ih12 (v12_2 ||| (mX5_only v12_3)) (v12_3 + 1) _ _ _ hP hD hS (lv_sub hl [2, 3, 1, 0] rfl) hm
  exact h12 kFU (k_t_reached ^^^ k_o0_reached) 0 _ _ _ hP hD hS (lv_sub hl [2, 3, 1, 0] rfl) hm
theorem hd_X2_changedIn : yX2_changedIn.cls = RX2 ∧ yX2_changedIn.cls ≠ "java/lang/invoke/MethodHandle" ∧ yX2_changedIn.cls ≠ "java/lang/invoke/VarHandle" ∧ (parseMethodDescriptor yX2_changedIn.desc).map (fun d => d.parameters.length) = some 1 := by decide +kernel
/-! CoverOrder.Covers isShown -/
set_option maxRecDepth 100000 in
set_option maxHeartbeats 4000000 in
theorem c_X2_isShown (l : Launch) (G : va_G) (cI cZ cE : ClassId) (a_t : Nat) (k_t_grid : Int64) (k_t_covered : Int64) (k_t_coverers : Int64) (k_t_reached : Int32) (p1 : Int32) (p2 : Int32) (R : Bool) (hm : mX2_isShown k_t_grid k_t_covered k_t_coverers k_t_reached p1 p2 = some R) : kM l yX2_isShown wsX2_isShown { frames := 3, cells := 0, slots := 0, locals := 65 } G cI cZ cE [.ref a_t, .int p1, .int p2] [(a_t, .inr (1, [.long k_t_grid, .long k_t_covered, .long k_t_coverers, .int k_t_reached]))] [(a_t, .inr (1, [.long k_t_grid, .long k_t_covered, .long k_t_coverers, .int k_t_reached]))] (some (.int (bI R))) := by
  refine kM_of cX2_isShown 5 (some .boolean) RX2 (by decide) rfl rfl (Nat.le_of_ble_eq_true rfl) ?_
  intro p e s m below meth c A ls X hA hP hD hS hl
  have hx := X.1.1
  have hb := X.1.2.1
  have hts := X.1.2.2.2.2
  have hown := X.1.2.2.2.1
  have hK := X.2.2.2.1
  have l_9 : (.fieldLink RX2 9 "CoverOrder$Covers" "grid" "J" : Cond).before _ s = true := hts _ (List.mem_of_getElem? (i := 1) (by decide +kernel))
  have i_X2 : ∀ w ∈ u_ws RX2 TX2 4, w ∈ wsX2_isShown := k_in _ [38, 39, 40, 41] (by decide +kernel)
  have l_21 : (.fieldLink RX2 21 "CoverOrder$Covers" "reached" "I" : Cond).before _ s = true := hts _ (List.mem_of_getElem? (i := 2) (by decide +kernel))
  have hl : lv_has ls 5 [(0, .ref a_t), (1, .int p1), (2, .int p2)] := hl
  rw [mX2_isShown] at hm
  refine lv_aload_n hx hb dX2_isShown_0 rfl (lv_at hl 0 rfl) ?_
  refine va_get (D := G) (ci := 1) (v := .long k_t_grid) (C := RX2) (T := TX2) (N := 4) hx hb hts i_X2 hown hK hP 0 rfl rfl 0 (by decide) l_9 (fun _ h9 => h9) rfl dX2_isShown_1 ?_
  refine lv_iload_n hx hb dX2_isShown_4 rfl (lv_at hl 1 rfl) ?_
  obtain ⟨r5, hc5, hm⟩ := kbind hm
  refine kcS0 (st1 := [.int r5]) X hA (c_X5_column l G cI cZ cE k_t_grid p1 r5 hc5) (va_cwS 2 hts gX2_isShown_X5_column rfl rfl rfl hd_X5_column ⟨Nat.le_of_ble_eq_true rfl, Nat.le_of_ble_eq_true rfl⟩) hl.1 dX2_isShown_5 hP hD hS [] rfl rfl rfl [] rfl (Nat.le_of_ble_eq_true rfl) rfl ⟨Nat.zero_le _, Nat.zero_le _⟩ (fun H locs hP hD hS => ?_)
  refine lv_aload_n hx hb dX2_isShown_8 rfl (lv_at hl 0 rfl) ?_
  refine va_get (D := G) (ci := 1) (v := .int k_t_reached) (C := RX2) (T := TX2) (N := 4) hx hb hts i_X2 hown hK hP 0 rfl rfl 3 (by decide) l_21 (fun _ h9 => h9) rfl dX2_isShown_9 ?_
  refine lv_iand hx hb dX2_isShown_12 ?_
  refine lv_istore_n (lv' := [(3, .int (r5 &&& k_t_reached)), (0, .ref a_t), (1, .int p1), (2, .int p2)]) hx hb dX2_isShown_13 rfl hl (by decide) rfl (fun ls hl => ?_)
  refine lv_aload_n hx hb dX2_isShown_14 rfl (lv_at hl 1 rfl) ?_
  refine va_get (D := G) (ci := 1) (v := .int k_t_reached) (C := RX2) (T := TX2) (N := 4) hx hb hts i_X2 hown hK hP 0 rfl rfl 3 (by decide) l_21 (fun _ h9 => h9) rfl dX2_isShown_15 ?_
  refine lv_iload_n hx hb dX2_isShown_18 rfl (lv_at hl 3 rfl) ?_
  refine lv_iconst (v := (-1)) hx hb dX2_isShown_19 (by decide) ?_
  refine lv_ixor hx hb dX2_isShown_20 ?_
  refine lv_iand hx hb dX2_isShown_21 ?_
  refine lv_aload_n hx hb dX2_isShown_22 rfl (lv_at hl 1 rfl) ?_
  refine lv_iload_n hx hb dX2_isShown_23 rfl (lv_at hl 2 rfl) ?_
  refine kcV0 (st1 := [.int (mX2_coveredBy k_t_covered p1), .int (k_t_reached &&& (p2 ^^^ (-1)))]) X hA (c_X2_coveredBy l G cI cZ cE a_t k_t_grid k_t_covered k_t_coverers k_t_reached p1 _ rfl) (cwV 1 hts gX2_isShown_X2_coveredBy rfl rfl rfl hd_X2_coveredBy ⟨Nat.le_of_ble_eq_true rfl, Nat.le_of_ble_eq_true rfl⟩) 0 1 rfl rfl hl.1 dX2_isShown_24 hP hD hS [0] rfl rfl rfl [.int (k_t_reached &&& (p2 ^^^ (-1)))] rfl (Nat.le_of_ble_eq_true rfl) rfl ⟨Nat.zero_le _, Nat.zero_le _⟩ (fun H locs hP hD hS => ?_)
  refine lv_iconst (v := (-1)) hx hb dX2_isShown_27 (by decide) ?_
  refine lv_ixor hx hb dX2_isShown_28 ?_
  refine lv_iand hx hb dX2_isShown_29 ?_
  refine lv_istore (lv' := [(4, .int ((k_t_reached &&& (p2 ^^^ (-1))) &&& ((mX2_coveredBy k_t_covered p1) ^^^ (-1)))), (3, .int (r5 &&& k_t_reached)), (0, .ref a_t), (1, .int p1), (2, .int p2)]) hx hb dX2_isShown_30 hl (by decide) rfl (fun ls hl => ?_)
  refine lv_iload_n hx hb dX2_isShown_32 rfl (lv_at hl 1 rfl) ?_
  refine lv_aload_n hx hb dX2_isShown_33 rfl (lv_at hl 2 rfl) ?_
  refine lv_iload_n hx hb dX2_isShown_34 rfl (lv_at hl 3 rfl) ?_
  obtain ⟨r35, hc35, hm⟩ := kbind hm
  refine kcV0 (st1 := [.int r35, .int (r5 &&& k_t_reached)]) X hA (c_X2_lidOf l G cI cZ cE a_t k_t_grid k_t_covered k_t_coverers k_t_reached p1 r35 hc35) (cwV 1 hts gX2_isShown_X2_lidOf rfl rfl rfl hd_X2_lidOf ⟨Nat.le_of_ble_eq_true rfl, Nat.le_of_ble_eq_true rfl⟩) 0 1 rfl rfl hl.1 dX2_isShown_35 hP hD hS [0] rfl rfl rfl [.int (r5 &&& k_t_reached)] rfl (Nat.le_of_ble_eq_true rfl) rfl ⟨Nat.zero_le _, Nat.zero_le _⟩ (fun H locs hP hD hS => ?_)
  refine kcS0 (st1 := [.int (bI (mX5_isIn (r5 &&& k_t_reached) r35))]) X hA (c_X5_isIn l G cI cZ cE (r5 &&& k_t_reached) r35 _ rfl) (va_cwS 2 hts gX2_isShown_X5_isIn rfl rfl rfl hd_X5_isIn ⟨Nat.le_of_ble_eq_true rfl, Nat.le_of_ble_eq_true rfl⟩) hl.1 dX2_isShown_38 hP hD hS [] rfl rfl rfl [] rfl (Nat.le_of_ble_eq_true rfl) rfl ⟨Nat.zero_le _, Nat.zero_le _⟩ (fun H locs hP hD hS => ?_)
  refine lv_if_ne (tgt := 57) hx hb dX2_isShown_41 (by decide) (fun c41 => ?_) (fun c41 => ?_)
  · have c41 := kb1 c41
    rw [if_pos c41] at hm
    refine lv_iconst (v := 1) hx hb dX2_isShown_57 (by decide) ?_
    refine lv_goto (tgt := 62) hx hb dX2_isShown_58 (by decide) ?_
    have hm := Option.some.inj hm
    subst hm
    exact k_zret (v := true) X rfl dX2_isShown_62 hP hD hS
  · have c41 := kb0 c41
    rw [if_neg c41] at hm
    refine lv_iload_n hx hb dX2_isShown_44 rfl (lv_at hl 1 rfl) ?_
    refine lv_iload_n hx hb dX2_isShown_45 rfl (lv_at hl 4 rfl) ?_
    refine lv_iand hx hb dX2_isShown_46 ?_
    refine lv_if_eq (tgt := 61) hx hb dX2_isShown_47 (by decide) (fun c47 => ?_) (fun c47 => ?_)
    · rw [if_pos c47] at hm
      refine lv_iconst (v := 0) hx hb dX2_isShown_61 (by decide) ?_
      have hm := Option.some.inj hm
      subst hm
      exact k_zret (v := false) X rfl dX2_isShown_62 hP hD hS
    · rw [if_neg c47] at hm
      refine lv_iload_n hx hb dX2_isShown_50 rfl (lv_at hl 1 rfl) ?_
      refine lv_iload hx hb dX2_isShown_51 (lv_at hl 0 rfl) ?_
      refine lv_iand hx hb dX2_isShown_53 ?_
      refine lv_if_eq (tgt := 61) hx hb dX2_isShown_54 (by decide) (fun c54 => ?_) (fun c54 => ?_)
      · rw [if_pos c54] at hm
        refine lv_iconst (v := 0) hx hb dX2_isShown_61 (by decide) ?_
        have hm := Option.some.inj hm
        subst hm
        exact k_zret (v := false) X rfl dX2_isShown_62 hP hD hS
      · rw [if_neg c54] at hm
        refine lv_iconst (v := 1) hx hb dX2_isShown_57 (by decide) ?_
        refine lv_goto (tgt := 62) hx hb dX2_isShown_58 (by decide) ?_
        have hm := Option.some.inj hm
        subst hm
        exact k_zret (v := true) X rfl dX2_isShown_62 hP hD hS
theorem hd_X2_isShown : yX2_isShown.cls = RX2 ∧ yX2_isShown.cls ≠ "java/lang/invoke/MethodHandle" ∧ yX2_isShown.cls ≠ "java/lang/invoke/VarHandle" ∧ (parseMethodDescriptor yX2_isShown.desc).map (fun d => d.parameters.length) = some 2 := by decide +kernel
/-! CoverOrder.Covers nextBehind -/
set_option maxRecDepth 100000 in
set_option maxHeartbeats 4000000 in
theorem c_X2_nextBehind (l : Launch) (G : va_G) (cI cZ cE : ClassId) (a_t : Nat) (k_t_grid : Int64) (k_t_covered : Int64) (k_t_coverers : Int64) (k_t_reached : Int32) (p1 : Int32) (R : Int32) (hm : mX2_nextBehind k_t_covered k_t_coverers k_t_reached p1 = some R) : kM l yX2_nextBehind wsX2_nextBehind { frames := 3, cells := 0, slots := 0, locals := 65 } G cI cZ cE [.ref a_t, .int p1] [(a_t, .inr (1, [.long k_t_grid, .long k_t_covered, .long k_t_coverers, .int k_t_reached]))] [(a_t, .inr (1, [.long k_t_grid, .long k_t_covered, .long k_t_coverers, .int k_t_reached]))] (some (.int R)) := by
  refine kM_of cX2_nextBehind 5 (some .int) RX2 (by decide) rfl rfl (Nat.le_of_ble_eq_true rfl) ?_
  intro p e s m below meth c A ls X hA hP hD hS hl
  have hx := X.1.1
  have hb := X.1.2.1
  have hts := X.1.2.2.2.2
  have hown := X.1.2.2.2.1
  have hK := X.2.2.2.1
  have l_21 : (.fieldLink RX2 21 "CoverOrder$Covers" "reached" "I" : Cond).before _ s = true := hts _ (List.mem_of_getElem? (i := 1) (by decide +kernel))
  have i_X2 : ∀ w ∈ u_ws RX2 TX2 4, w ∈ wsX2_nextBehind := k_in _ [31, 32, 33, 34] (by decide +kernel)
  have hl : lv_has ls 5 [(0, .ref a_t), (1, .int p1)] := hl
  rw [mX2_nextBehind] at hm
  refine lv_aload_n hx hb dX2_nextBehind_0 rfl (lv_at hl 0 rfl) ?_
  refine va_get (D := G) (ci := 1) (v := .int k_t_reached) (C := RX2) (T := TX2) (N := 4) hx hb hts i_X2 hown hK hP 0 rfl rfl 3 (by decide) l_21 (fun _ h9 => h9) rfl dX2_nextBehind_1 ?_
  refine lv_iload_n hx hb dX2_nextBehind_4 rfl (lv_at hl 1 rfl) ?_
  refine lv_iconst (v := (-1)) hx hb dX2_nextBehind_5 (by decide) ?_
  refine lv_ixor hx hb dX2_nextBehind_6 ?_
  refine lv_iand hx hb dX2_nextBehind_7 ?_
  refine lv_istore_n (lv' := [(2, .int (k_t_reached &&& (p1 ^^^ (-1)))), (0, .ref a_t), (1, .int p1)]) hx hb dX2_nextBehind_8 rfl hl (by decide) rfl (fun ls hl => ?_)
  refine lv_iconst (v := 0) hx hb dX2_nextBehind_9 (by decide) ?_
  refine lv_istore_n (lv' := [(3, .int 0), (2, .int (k_t_reached &&& (p1 ^^^ (-1)))), (0, .ref a_t), (1, .int p1)]) hx hb dX2_nextBehind_10 rfl hl (by decide) rfl (fun ls hl => ?_)
  have h11 : ∀ (n11 : Nat), ∀ (v11_2 : Int32) (v11_3 : Int32) (H : Heap) (locs : List Loc) (ls : Array Slot), va_P G vwCl [(a_t, .inr (1, [.long k_t_grid, .long k_t_covered, .long k_t_coverers, .int k_t_reached]))] H → va_D A [(a_t, .inr (1, [.long k_t_grid, .long k_t_covered, .long k_t_coverers, .int k_t_reached]))] → va_S A s.heap H locs → lv_has ls 5 [(0, .ref a_t), (1, .int p1), (2, .int v11_2), (3, .int v11_3)] → mX2_nextBehind_L11 k_t_covered k_t_coverers p1 n11 v11_2 v11_3 = some R → W p l e { frames := 3, cells := 0, slots := 0, locals := 65 } s m ([.ref a_t, .int p1] : List Value).toArray below meth c H locs 0 0 (kQ below G [(a_t, .inr (1, [.long k_t_grid, .long k_t_covered, .long k_t_coverers, .int k_t_reached]))] (some (.int R)) A ([.ref a_t, .int p1] : List Value).toArray s) (F0 m 11 ls []) := by
    intro n11
    induction n11 with
    | zero => intro v11_2 v11_3 H locs ls hP hD hS hl hm; rw [mX2_nextBehind_L11] at hm; cases hm
    | succ n11 ih11 =>
      intro v11_2 v11_3 H locs ls hP hD hS hl hm
      rw [mX2_nextBehind_L11] at hm
      refine lv_iload_n hx hb dX2_nextBehind_11 rfl (lv_at hl 3 rfl) ?_
      refine lv_bipush (v := 8) hx hb dX2_nextBehind_12 (by decide) ?_
      refine lv_icmp_ge (tgt := 87) hx hb dX2_nextBehind_14 (by decide) (fun c14 => ?_) (fun c14 => ?_)
      · rw [if_pos c14] at hm
        refine lv_iload_n hx hb dX2_nextBehind_87 rfl (lv_at hl 2 rfl) ?_
        have hm := Option.some.inj hm
        subst hm
        exact k_iret (v := v11_2) X rfl dX2_nextBehind_88 hP hD hS
      · rw [if_neg c14] at hm
        refine lv_iload_n hx hb dX2_nextBehind_17 rfl (lv_at hl 1 rfl) ?_
        refine lv_iload_n hx hb dX2_nextBehind_18 rfl (lv_at hl 3 rfl) ?_
        refine kcS0 (st1 := [.int (bI (mX5_isIn p1 v11_3))]) X hA (c_X5_isIn l G cI cZ cE p1 v11_3 _ rfl) (va_cwS 2 hts gX2_nextBehind_X5_isIn rfl rfl rfl hd_X5_isIn ⟨Nat.le_of_ble_eq_true rfl, Nat.le_of_ble_eq_true rfl⟩) hl.1 dX2_nextBehind_19 hP hD hS [] rfl rfl rfl [] rfl (Nat.le_of_ble_eq_true rfl) rfl ⟨Nat.zero_le _, Nat.zero_le _⟩ (fun H locs hP hD hS => ?_)
        have h42 : ∀ (s42_0 : Bool) (H : Heap) (locs : List Loc) (ls : Array Slot), va_P G vwCl [(a_t, .inr (1, [.long k_t_grid, .long k_t_covered, .long k_t_coverers, .int k_t_reached]))] H → va_D A [(a_t, .inr (1, [.long k_t_grid, .long k_t_covered, .long k_t_coverers, .int k_t_reached]))] → va_S A s.heap H locs → lv_has ls 5 [(0, .ref a_t), (1, .int p1), (2, .int v11_2), (3, .int v11_3)] → mX2_nextBehind_J42 (mX2_nextBehind_L11 k_t_covered k_t_coverers p1 n11) k_t_covered k_t_coverers p1 v11_2 v11_3 s42_0 = some R → W p l e { frames := 3, cells := 0, slots := 0, locals := 65 } s m ([.ref a_t, .int p1] : List Value).toArray below meth c H locs 0 0 (kQ below G [(a_t, .inr (1, [.long k_t_grid, .long k_t_covered, .long k_t_coverers, .int k_t_reached]))] (some (.int R)) A ([.ref a_t, .int p1] : List Value).toArray s) (F0 m 42 ls [.int (bI s42_0)]) := by
          intro s42_0 H locs ls hP hD hS hl hm
          rw [mX2_nextBehind_J42] at hm
          refine lv_istore (lv' := [(4, .int (bI s42_0)), (0, .ref a_t), (1, .int p1), (2, .int v11_2), (3, .int v11_3)]) hx hb dX2_nextBehind_42 hl (by decide) rfl (fun ls hl => ?_)
          refine lv_iload hx hb dX2_nextBehind_44 (lv_at hl 0 rfl) ?_
          refine lv_if_eq (tgt := 60) hx hb dX2_nextBehind_46 (by decide) (fun c46 => ?_) (fun c46 => ?_)
          · have c46 := kb0 c46
            rw [if_neg c46] at hm
            refine lv_iload_n hx hb dX2_nextBehind_60 rfl (lv_at hl 2 rfl) ?_
            refine lv_aload_n hx hb dX2_nextBehind_61 rfl (lv_at hl 1 rfl) ?_
            refine lv_iload_n hx hb dX2_nextBehind_62 rfl (lv_at hl 4 rfl) ?_
            obtain ⟨r63, hc63, hm⟩ := kbind hm
            refine kcV0 (st1 := [.int r63, .int p1]) X hA (c_X2_lidOf l G cI cZ cE a_t k_t_grid k_t_covered k_t_coverers k_t_reached v11_3 r63 hc63) (cwV 1 hts gX2_nextBehind_X2_lidOf rfl rfl rfl hd_X2_lidOf ⟨Nat.le_of_ble_eq_true rfl, Nat.le_of_ble_eq_true rfl⟩) 0 1 rfl rfl hl.1 dX2_nextBehind_63 hP hD hS [0] rfl rfl rfl [.int p1] rfl (Nat.le_of_ble_eq_true rfl) rfl ⟨Nat.zero_le _, Nat.zero_le _⟩ (fun H locs hP hD hS => ?_)
            refine kcS0 (st1 := [.int (bI (mX5_isIn p1 r63))]) X hA (c_X5_isIn l G cI cZ cE p1 r63 _ rfl) (va_cwS 2 hts gX2_nextBehind_X5_isIn rfl rfl rfl hd_X5_isIn ⟨Nat.le_of_ble_eq_true rfl, Nat.le_of_ble_eq_true rfl⟩) hl.1 dX2_nextBehind_66 hP hD hS [] rfl rfl rfl [] rfl (Nat.le_of_ble_eq_true rfl) rfl ⟨Nat.zero_le _, Nat.zero_le _⟩ (fun H locs hP hD hS => ?_)
            refine lv_if_ne (tgt := 81) hx hb dX2_nextBehind_69 (by decide) (fun c69 => ?_) (fun c69 => ?_)
            · have c69 := kb1 c69
              rw [if_pos c69] at hm
              refine lv_iinc (v := v11_3 + 1) (lv' := [(3, .int (v11_3 + 1)), (4, .int (bI s42_0)), (0, .ref a_t), (1, .int p1), (2, .int v11_2)]) hx hb dX2_nextBehind_81 hl (k := 4) rfl rfl (by decide) rfl (fun ls hl => ?_)
              refine lv_goto (tgt := 11) hx hb dX2_nextBehind_84 (by decide) ?_
              exact ih11 v11_2 (v11_3 + 1) _ _ _ hP hD hS (lv_sub hl [2, 3, 4, 0] rfl) hm
            · have c69 := kb0 c69
              rw [if_neg c69] at hm
              refine lv_iload_n hx hb dX2_nextBehind_72 rfl (lv_at hl 3 rfl) ?_
              refine lv_iload_n hx hb dX2_nextBehind_73 rfl (lv_at hl 4 rfl) ?_
              refine kcS0 (st1 := [.int (mX5_only v11_3), .int v11_2]) X hA (c_X5_only l G cI cZ cE v11_3 _ rfl) (va_cwS 1 hts gX2_nextBehind_X5_only rfl rfl rfl hd_X5_only ⟨Nat.le_of_ble_eq_true rfl, Nat.le_of_ble_eq_true rfl⟩) hl.1 dX2_nextBehind_74 hP hD hS [] rfl rfl rfl [.int v11_2] rfl (Nat.le_of_ble_eq_true rfl) rfl ⟨Nat.zero_le _, Nat.zero_le _⟩ (fun H locs hP hD hS => ?_)
              refine lv_iconst (v := (-1)) hx hb dX2_nextBehind_77 (by decide) ?_
              refine lv_ixor hx hb dX2_nextBehind_78 ?_
              refine lv_iand hx hb dX2_nextBehind_79 ?_
              refine lv_istore_n (lv' := [(2, .int (v11_2 &&& ((mX5_only v11_3) ^^^ (-1)))), (4, .int (bI s42_0)), (0, .ref a_t), (1, .int p1), (3, .int v11_3)]) hx hb dX2_nextBehind_80 rfl hl (by decide) rfl (fun ls hl => ?_)
              refine lv_iinc (v := v11_3 + 1) (lv' := [(3, .int (v11_3 + 1)), (2, .int (v11_2 &&& ((mX5_only v11_3) ^^^ (-1)))), (4, .int (bI s42_0)), (0, .ref a_t), (1, .int p1)]) hx hb dX2_nextBehind_81 hl (k := 4) rfl rfl (by decide) rfl (fun ls hl => ?_)
              refine lv_goto (tgt := 11) hx hb dX2_nextBehind_84 (by decide) ?_
              exact ih11 (v11_2 &&& ((mX5_only v11_3) ^^^ (-1))) (v11_3 + 1) _ _ _ hP hD hS (lv_sub hl [3, 4, 1, 0] rfl) hm
          · have c46 := kb1 c46
            rw [if_pos c46] at hm
            refine lv_iload_n hx hb dX2_nextBehind_49 rfl (lv_at hl 3 rfl) ?_
            refine lv_aload_n hx hb dX2_nextBehind_50 rfl (lv_at hl 1 rfl) ?_
            refine lv_iload_n hx hb dX2_nextBehind_51 rfl (lv_at hl 4 rfl) ?_
            refine kcV0 (st1 := [.int (mX2_coveredBy k_t_covered v11_3), .int v11_2]) X hA (c_X2_coveredBy l G cI cZ cE a_t k_t_grid k_t_covered k_t_coverers k_t_reached v11_3 _ rfl) (cwV 1 hts gX2_nextBehind_X2_coveredBy rfl rfl rfl hd_X2_coveredBy ⟨Nat.le_of_ble_eq_true rfl, Nat.le_of_ble_eq_true rfl⟩) 0 1 rfl rfl hl.1 dX2_nextBehind_52 hP hD hS [0] rfl rfl rfl [.int v11_2] rfl (Nat.le_of_ble_eq_true rfl) rfl ⟨Nat.zero_le _, Nat.zero_le _⟩ (fun H locs hP hD hS => ?_)
            refine lv_iand hx hb dX2_nextBehind_55 ?_
            refine lv_istore_n (lv' := [(2, .int (v11_2 &&& (mX2_coveredBy k_t_covered v11_3))), (4, .int (bI s42_0)), (0, .ref a_t), (1, .int p1), (3, .int v11_3)]) hx hb dX2_nextBehind_56 rfl hl (by decide) rfl (fun ls hl => ?_)
            refine lv_goto (tgt := 81) hx hb dX2_nextBehind_57 (by decide) ?_
            refine lv_iinc (v := v11_3 + 1) (lv' := [(3, .int (v11_3 + 1)), (2, .int (v11_2 &&& (mX2_coveredBy k_t_covered v11_3))), (4, .int (bI s42_0)), (0, .ref a_t), (1, .int p1)]) hx hb dX2_nextBehind_81 hl (k := 4) rfl rfl (by decide) rfl (fun ls hl => ?_)
            refine lv_goto (tgt := 11) hx hb dX2_nextBehind_84 (by decide) ?_
            exact ih11 (v11_2 &&& (mX2_coveredBy k_t_covered v11_3)) (v11_3 + 1) _ _ _ hP hD hS (lv_sub hl [3, 4, 1, 0] rfl) hm
        refine lv_if_eq (tgt := 41) hx hb dX2_nextBehind_22 (by decide) (fun c22 => ?_) (fun c22 => ?_)
        · have c22 := kb0 c22
          rw [if_neg c22] at hm
          refine lv_iconst (v := 0) hx hb dX2_nextBehind_41 (by decide) ?_
          exact h42 false _ _ _ hP hD hS (lv_sub hl [0, 1, 2, 3] rfl) hm
        · have c22 := kb1 c22
          rw [if_pos c22] at hm
          refine lv_aload_n hx hb dX2_nextBehind_25 rfl (lv_at hl 0 rfl) ?_
          refine lv_iload_n hx hb dX2_nextBehind_26 rfl (lv_at hl 3 rfl) ?_
          refine kcV0 (st1 := [.int (mX2_coveredBy k_t_covered v11_3)]) X hA (c_X2_coveredBy l G cI cZ cE a_t k_t_grid k_t_covered k_t_coverers k_t_reached v11_3 _ rfl) (cwV 1 hts gX2_nextBehind_X2_coveredBy rfl rfl rfl hd_X2_coveredBy ⟨Nat.le_of_ble_eq_true rfl, Nat.le_of_ble_eq_true rfl⟩) 0 1 rfl rfl hl.1 dX2_nextBehind_27 hP hD hS [0] rfl rfl rfl [] rfl (Nat.le_of_ble_eq_true rfl) rfl ⟨Nat.zero_le _, Nat.zero_le _⟩ (fun H locs hP hD hS => ?_)
          refine lv_iload_n hx hb dX2_nextBehind_30 rfl (lv_at hl 1 rfl) ?_
          refine lv_iconst (v := (-1)) hx hb dX2_nextBehind_31 (by decide) ?_
          refine lv_ixor hx hb dX2_nextBehind_32 ?_
          refine lv_iand hx hb dX2_nextBehind_33 ?_
          refine lv_if_eq (tgt := 41) hx hb dX2_nextBehind_34 (by decide) (fun c34 => ?_) (fun c34 => ?_)
          · rw [if_pos c34] at hm
            refine lv_iconst (v := 0) hx hb dX2_nextBehind_41 (by decide) ?_
            exact h42 false _ _ _ hP hD hS (lv_sub hl [0, 1, 2, 3] rfl) hm
          · rw [if_neg c34] at hm
            refine lv_iconst (v := 1) hx hb dX2_nextBehind_37 (by decide) ?_
            refine lv_goto (tgt := 42) hx hb dX2_nextBehind_38 (by decide) ?_
            exact h42 true _ _ _ hP hD hS (lv_sub hl [0, 1, 2, 3] rfl) hm
  exact h11 kFU (k_t_reached &&& (p1 ^^^ (-1))) 0 _ _ _ hP hD hS (lv_sub hl [2, 3, 1, 0] rfl) hm
theorem hd_X2_nextBehind : yX2_nextBehind.cls = RX2 ∧ yX2_nextBehind.cls ≠ "java/lang/invoke/MethodHandle" ∧ yX2_nextBehind.cls ≠ "java/lang/invoke/VarHandle" ∧ (parseMethodDescriptor yX2_nextBehind.desc).map (fun d => d.parameters.length) = some 1 := by decide +kernel
/-! CoverOrder.Covers isInPlace -/
set_option maxRecDepth 100000 in
set_option maxHeartbeats 4000000 in
theorem c_X2_isInPlace (l : Launch) (G : va_G) (cI cZ cE : ClassId) (a_t a_o2 a_o2_items : Nat) (n_o2 : Nat) (k_t_grid : Int64) (k_t_covered : Int64) (k_t_coverers : Int64) (k_t_reached : Int32) (k_o2_size : Int32) (f_o2_items : Nat → Int32) (p1 : Int32) (p2 : Int32) (R : Bool) (hm : mX2_isInPlace n_o2 k_t_covered k_t_coverers k_o2_size f_o2_items p1 p2 = some R) : kM l yX2_isInPlace wsX2_isInPlace { frames := 3, cells := 0, slots := 0, locals := 65 } G cI cZ cE [.ref a_t, .int p1, .int p2, .ref a_o2] [(a_t, .inr (1, [.long k_t_grid, .long k_t_covered, .long k_t_coverers, .int k_t_reached])), (a_o2, .inr (3, [.ref a_o2_items, .int k_o2_size])), (a_o2_items, .inl (cI, n_o2, .inl f_o2_items))] [(a_t, .inr (1, [.long k_t_grid, .long k_t_covered, .long k_t_coverers, .int k_t_reached])), (a_o2, .inr (3, [.ref a_o2_items, .int k_o2_size])), (a_o2_items, .inl (cI, n_o2, .inl f_o2_items))] (some (.int (bI R))) := by
  refine kM_of cX2_isInPlace 4 (some .boolean) RX2 (by decide) rfl rfl (Nat.le_of_ble_eq_true rfl) ?_
  intro p e s m below meth c A ls X hA hP hD hS hl
  have hx := X.1.1
  have hb := X.1.2.1
  have hts := X.1.2.2.2.2
  have hown := X.1.2.2.2.1
  have hK := X.2.2.2.1
  have hl : lv_has ls 4 [(0, .ref a_t), (1, .int p1), (2, .int p2), (3, .ref a_o2)] := hl
  rw [mX2_isInPlace] at hm
  refine lv_iload_n hx hb dX2_isInPlace_0 rfl (lv_at hl 2 rfl) ?_
  have h8 : ∀ (H : Heap) (locs : List Loc) (ls : Array Slot), va_P G vwCl [(a_t, .inr (1, [.long k_t_grid, .long k_t_covered, .long k_t_coverers, .int k_t_reached])), (a_o2, .inr (3, [.ref a_o2_items, .int k_o2_size])), (a_o2_items, .inl (cI, n_o2, .inl f_o2_items))] H → va_D A [(a_t, .inr (1, [.long k_t_grid, .long k_t_covered, .long k_t_coverers, .int k_t_reached])), (a_o2, .inr (3, [.ref a_o2_items, .int k_o2_size])), (a_o2_items, .inl (cI, n_o2, .inl f_o2_items))] → va_S A s.heap H locs → lv_has ls 4 [(1, .int p1), (2, .int p2)] → mX2_isInPlace_J8 p1 p2 = some R → W p l e { frames := 3, cells := 0, slots := 0, locals := 65 } s m ([.ref a_t, .int p1, .int p2, .ref a_o2] : List Value).toArray below meth c H locs 0 0 (kQ below G [(a_t, .inr (1, [.long k_t_grid, .long k_t_covered, .long k_t_coverers, .int k_t_reached])), (a_o2, .inr (3, [.ref a_o2_items, .int k_o2_size])), (a_o2_items, .inl (cI, n_o2, .inl f_o2_items))] (some (.int (bI R))) A ([.ref a_t, .int p1, .int p2, .ref a_o2] : List Value).toArray s) (F0 m 8 ls []) := by
    intro H locs ls hP hD hS hl hm
    rw [mX2_isInPlace_J8] at hm
    refine lv_iload_n hx hb dX2_isInPlace_8 rfl (lv_at hl 1 rfl) ?_
    refine lv_if_ne (tgt := 20) hx hb dX2_isInPlace_9 (by decide) (fun c9 => ?_) (fun c9 => ?_)
    · rw [if_neg c9] at hm
      refine lv_iconst (v := 0) hx hb dX2_isInPlace_20 (by decide) ?_
      have hm := Option.some.inj hm
      subst hm
      exact k_zret (v := false) X rfl dX2_isInPlace_21 hP hD hS
    · rw [if_pos c9] at hm
      refine lv_iload_n hx hb dX2_isInPlace_12 rfl (lv_at hl 0 rfl) ?_
      refine lv_if_ne (tgt := 20) hx hb dX2_isInPlace_13 (by decide) (fun c13 => ?_) (fun c13 => ?_)
      · rw [if_neg c13] at hm
        refine lv_iconst (v := 0) hx hb dX2_isInPlace_20 (by decide) ?_
        have hm := Option.some.inj hm
        subst hm
        exact k_zret (v := false) X rfl dX2_isInPlace_21 hP hD hS
      · rw [if_pos c13] at hm
        refine lv_iconst (v := 1) hx hb dX2_isInPlace_16 (by decide) ?_
        refine lv_goto (tgt := 21) hx hb dX2_isInPlace_17 (by decide) ?_
        have hm := Option.some.inj hm
        subst hm
        exact k_zret (v := true) X rfl dX2_isInPlace_21 hP hD hS
  refine lv_if_eq (tgt := 8) hx hb dX2_isInPlace_1 (by decide) (fun c1 => ?_) (fun c1 => ?_)
  · rw [if_pos c1] at hm
    exact h8 _ _ _ hP hD hS (lv_sub hl [1, 2] rfl) hm
  · rw [if_neg c1] at hm
    refine lv_iload_n hx hb dX2_isInPlace_4 rfl (lv_at hl 1 rfl) ?_
    refine lv_if_ne (tgt := 22) hx hb dX2_isInPlace_5 (by decide) (fun c5 => ?_) (fun c5 => ?_)
    · rw [if_neg c5] at hm
      refine lv_aload_n hx hb dX2_isInPlace_22 rfl (lv_at hl 0 rfl) ?_
      refine lv_aload_n hx hb dX2_isInPlace_23 rfl (lv_at hl 0 rfl) ?_
      refine lv_iload_n hx hb dX2_isInPlace_24 rfl (lv_at hl 1 rfl) ?_
      obtain ⟨r25, hc25, hm⟩ := kbind hm
      refine kcV0 (st1 := [.int r25, .ref a_t]) X hA (c_X2_lidOf l G cI cZ cE a_t k_t_grid k_t_covered k_t_coverers k_t_reached p1 r25 hc25) (cwV 1 hts gX2_isInPlace_X2_lidOf rfl rfl rfl hd_X2_lidOf ⟨Nat.le_of_ble_eq_true rfl, Nat.le_of_ble_eq_true rfl⟩) 0 1 rfl rfl hl.1 dX2_isInPlace_25 hP hD hS [0] rfl rfl rfl [.ref a_t] rfl (Nat.le_of_ble_eq_true rfl) rfl ⟨Nat.zero_le _, Nat.zero_le _⟩ (fun H locs hP hD hS => ?_)
      refine kcV0 (st1 := [.int (mX2_coveredBy k_t_covered r25)]) X hA (c_X2_coveredBy l G cI cZ cE a_t k_t_grid k_t_covered k_t_coverers k_t_reached r25 _ rfl) (cwV 1 hts gX2_isInPlace_X2_coveredBy rfl rfl rfl hd_X2_coveredBy ⟨Nat.le_of_ble_eq_true rfl, Nat.le_of_ble_eq_true rfl⟩) 0 1 rfl rfl hl.1 dX2_isInPlace_28 hP hD hS [0] rfl rfl rfl [] rfl (Nat.le_of_ble_eq_true rfl) rfl ⟨Nat.zero_le _, Nat.zero_le _⟩ (fun H locs hP hD hS => ?_)
      refine lv_aload_n hx hb dX2_isInPlace_31 rfl (lv_at hl 3 rfl) ?_
      refine lv_iload_n hx hb dX2_isInPlace_32 rfl (lv_at hl 2 rfl) ?_
      refine lv_iconst (v := 1) hx hb dX2_isInPlace_33 (by decide) ?_
      refine lv_isub hx hb dX2_isInPlace_34 ?_
      refine kcV0 (st1 := [.int (mX6_at n_o2 k_o2_size f_o2_items (p2 - 1)), .int (mX2_coveredBy k_t_covered r25)]) X hA (c_X6_at l G cI cZ cE a_o2 a_o2_items n_o2 k_o2_size f_o2_items (p2 - 1) _ rfl) (cwV 1 hts gX2_isInPlace_X6_at rfl rfl rfl hd_X6_at ⟨Nat.le_of_ble_eq_true rfl, Nat.le_of_ble_eq_true rfl⟩) 1 3 rfl rfl hl.1 dX2_isInPlace_35 hP hD hS [1, 2] rfl rfl rfl [.int (mX2_coveredBy k_t_covered r25)] rfl (Nat.le_of_ble_eq_true rfl) rfl ⟨Nat.zero_le _, Nat.zero_le _⟩ (fun H locs hP hD hS => ?_)
      refine kcS0 (st1 := [.int (bI (mX5_isIn (mX2_coveredBy k_t_covered r25) (mX6_at n_o2 k_o2_size f_o2_items (p2 - 1))))]) X hA (c_X5_isIn l G cI cZ cE (mX2_coveredBy k_t_covered r25) (mX6_at n_o2 k_o2_size f_o2_items (p2 - 1)) _ rfl) (va_cwS 2 hts gX2_isInPlace_X5_isIn rfl rfl rfl hd_X5_isIn ⟨Nat.le_of_ble_eq_true rfl, Nat.le_of_ble_eq_true rfl⟩) hl.1 dX2_isInPlace_38 hP hD hS [] rfl rfl rfl [] rfl (Nat.le_of_ble_eq_true rfl) rfl ⟨Nat.zero_le _, Nat.zero_le _⟩ (fun H locs hP hD hS => ?_)
      have hm := Option.some.inj hm
      subst hm
      exact k_zret (v := (mX5_isIn (mX2_coveredBy k_t_covered r25) (mX6_at n_o2 k_o2_size f_o2_items (p2 - 1)))) X rfl dX2_isInPlace_41 hP hD hS
    · rw [if_pos c5] at hm
      exact h8 _ _ _ hP hD hS (lv_sub hl [1, 2] rfl) hm
theorem hd_X2_isInPlace : yX2_isInPlace.cls = RX2 ∧ yX2_isInPlace.cls ≠ "java/lang/invoke/MethodHandle" ∧ yX2_isInPlace.cls ≠ "java/lang/invoke/VarHandle" ∧ (parseMethodDescriptor yX2_isInPlace.desc).map (fun d => d.parameters.length) = some 3 := by decide +kernel
/-! CoverOrder.Covers firstMisplaced -/
set_option maxRecDepth 100000 in
set_option maxHeartbeats 4000000 in
theorem c_X2_firstMisplaced (l : Launch) (G : va_G) (cI cZ cE : ClassId) (a_t a_o0 a_o0_items : Nat) (n_o0 : Nat) (k_t_grid : Int64) (k_t_covered : Int64) (k_t_coverers : Int64) (k_t_reached : Int32) (k_o0_size : Int32) (f_o0_items : Nat → Int32) (R : Int32) (hm : mX2_firstMisplaced n_o0 k_t_covered k_t_coverers k_t_reached k_o0_size f_o0_items = some R) : kM l yX2_firstMisplaced wsX2_firstMisplaced { frames := 4, cells := 0, slots := 0, locals := 88 } G cI cZ cE [.ref a_t, .ref a_o0] [(a_t, .inr (1, [.long k_t_grid, .long k_t_covered, .long k_t_coverers, .int k_t_reached])), (a_o0, .inr (3, [.ref a_o0_items, .int k_o0_size])), (a_o0_items, .inl (cI, n_o0, .inl f_o0_items))] [(a_t, .inr (1, [.long k_t_grid, .long k_t_covered, .long k_t_coverers, .int k_t_reached])), (a_o0, .inr (3, [.ref a_o0_items, .int k_o0_size])), (a_o0_items, .inl (cI, n_o0, .inl f_o0_items))] (some (.int R)) := by
  refine kM_of cX2_firstMisplaced 6 (some .int) RX2 (by decide) rfl rfl (Nat.le_of_ble_eq_true rfl) ?_
  intro p e s m below meth c A ls X hA hP hD hS hl
  have hx := X.1.1
  have hb := X.1.2.1
  have hts := X.1.2.2.2.2
  have hown := X.1.2.2.2.1
  have hK := X.2.2.2.1
  have hl : lv_has ls 6 [(0, .ref a_t), (1, .ref a_o0)] := hl
  rw [mX2_firstMisplaced] at hm
  refine lv_iconst (v := 0) hx hb dX2_firstMisplaced_0 (by decide) ?_
  refine lv_istore_n (lv' := [(2, .int 0), (0, .ref a_t), (1, .ref a_o0)]) hx hb dX2_firstMisplaced_1 rfl hl (by decide) rfl (fun ls hl => ?_)
  refine lv_iconst (v := 0) hx hb dX2_firstMisplaced_2 (by decide) ?_
  refine lv_istore_n (lv' := [(3, .int 0), (2, .int 0), (0, .ref a_t), (1, .ref a_o0)]) hx hb dX2_firstMisplaced_3 rfl hl (by decide) rfl (fun ls hl => ?_)
  have h4 : ∀ (n4 : Nat), ∀ (v4_2 : Int32) (v4_3 : Int32) (H : Heap) (locs : List Loc) (ls : Array Slot), va_P G vwCl [(a_t, .inr (1, [.long k_t_grid, .long k_t_covered, .long k_t_coverers, .int k_t_reached])), (a_o0, .inr (3, [.ref a_o0_items, .int k_o0_size])), (a_o0_items, .inl (cI, n_o0, .inl f_o0_items))] H → va_D A [(a_t, .inr (1, [.long k_t_grid, .long k_t_covered, .long k_t_coverers, .int k_t_reached])), (a_o0, .inr (3, [.ref a_o0_items, .int k_o0_size])), (a_o0_items, .inl (cI, n_o0, .inl f_o0_items))] → va_S A s.heap H locs → lv_has ls 6 [(0, .ref a_t), (1, .ref a_o0), (2, .int v4_2), (3, .int v4_3)] → mX2_firstMisplaced_L4 k_t_covered k_t_coverers k_t_reached k_o0_size f_o0_items n_o0 n4 v4_2 v4_3 = some R → W p l e { frames := 4, cells := 0, slots := 0, locals := 88 } s m ([.ref a_t, .ref a_o0] : List Value).toArray below meth c H locs 0 0 (kQ below G [(a_t, .inr (1, [.long k_t_grid, .long k_t_covered, .long k_t_coverers, .int k_t_reached])), (a_o0, .inr (3, [.ref a_o0_items, .int k_o0_size])), (a_o0_items, .inl (cI, n_o0, .inl f_o0_items))] (some (.int R)) A ([.ref a_t, .ref a_o0] : List Value).toArray s) (F0 m 4 ls []) := by
    intro n4
    induction n4 with
    | zero => intro v4_2 v4_3 H locs ls hP hD hS hl hm; rw [mX2_firstMisplaced_L4] at hm; cases hm
    | succ n4 ih4 =>
      intro v4_2 v4_3 H locs ls hP hD hS hl hm
      rw [mX2_firstMisplaced_L4] at hm
      refine lv_iload_n hx hb dX2_firstMisplaced_4 rfl (lv_at hl 3 rfl) ?_
      refine lv_aload_n hx hb dX2_firstMisplaced_5 rfl (lv_at hl 1 rfl) ?_
      refine kcV0 (st1 := [.int (mX6_size k_o0_size), .int v4_3]) X hA (c_X6_size l G cI cZ cE a_o0 a_o0_items k_o0_size _ rfl) (cwV 0 hts gX2_firstMisplaced_X6_size rfl rfl rfl hd_X6_size ⟨Nat.le_of_ble_eq_true rfl, Nat.le_of_ble_eq_true rfl⟩) 1 3 rfl rfl hl.1 dX2_firstMisplaced_6 hP hD hS [1] rfl rfl rfl [.int v4_3] rfl (Nat.le_of_ble_eq_true rfl) rfl ⟨Nat.zero_le _, Nat.zero_le _⟩ (fun H locs hP hD hS => ?_)
      refine lv_icmp_ge (tgt := 76) hx hb dX2_firstMisplaced_9 (by decide) (fun c9 => ?_) (fun c9 => ?_)
      · rw [if_pos c9] at hm
        refine lv_bipush (v := (-9)) hx hb dX2_firstMisplaced_76 (by decide) ?_
        have hm := Option.some.inj hm
        subst hm
        exact k_iret (v := (-9)) X rfl dX2_firstMisplaced_78 hP hD hS
      · rw [if_neg c9] at hm
        refine lv_aload_n hx hb dX2_firstMisplaced_12 rfl (lv_at hl 1 rfl) ?_
        refine lv_iload_n hx hb dX2_firstMisplaced_13 rfl (lv_at hl 3 rfl) ?_
        refine kcV0 (st1 := [.int (mX6_at n_o0 k_o0_size f_o0_items v4_3)]) X hA (c_X6_at l G cI cZ cE a_o0 a_o0_items n_o0 k_o0_size f_o0_items v4_3 _ rfl) (cwV 1 hts gX2_firstMisplaced_X6_at rfl rfl rfl hd_X6_at ⟨Nat.le_of_ble_eq_true rfl, Nat.le_of_ble_eq_true rfl⟩) 1 3 rfl rfl hl.1 dX2_firstMisplaced_14 hP hD hS [1, 2] rfl rfl rfl [] rfl (Nat.le_of_ble_eq_true rfl) rfl ⟨Nat.zero_le _, Nat.zero_le _⟩ (fun H locs hP hD hS => ?_)
        refine lv_istore (lv' := [(4, .int (mX6_at n_o0 k_o0_size f_o0_items v4_3)), (0, .ref a_t), (1, .ref a_o0), (2, .int v4_2), (3, .int v4_3)]) hx hb dX2_firstMisplaced_17 hl (by decide) rfl (fun ls hl => ?_)
        refine lv_aload_n hx hb dX2_firstMisplaced_19 rfl (lv_at hl 1 rfl) ?_
        refine lv_iload hx hb dX2_firstMisplaced_20 (lv_at hl 0 rfl) ?_
        refine kcV0 (st1 := [.int (bI (mX2_isReached k_t_reached (mX6_at n_o0 k_o0_size f_o0_items v4_3)))]) X hA (c_X2_isReached l G cI cZ cE a_t k_t_grid k_t_covered k_t_coverers k_t_reached (mX6_at n_o0 k_o0_size f_o0_items v4_3) _ rfl) (cwV 1 hts gX2_firstMisplaced_X2_isReached rfl rfl rfl hd_X2_isReached ⟨Nat.le_of_ble_eq_true rfl, Nat.le_of_ble_eq_true rfl⟩) 0 1 rfl rfl hl.1 dX2_firstMisplaced_22 hP hD hS [0] rfl rfl rfl [] rfl (Nat.le_of_ble_eq_true rfl) rfl ⟨Nat.zero_le _, Nat.zero_le _⟩ (fun H locs hP hD hS => ?_)
        have h42 : ∀ (s42_0 : Bool) (H : Heap) (locs : List Loc) (ls : Array Slot), va_P G vwCl [(a_t, .inr (1, [.long k_t_grid, .long k_t_covered, .long k_t_coverers, .int k_t_reached])), (a_o0, .inr (3, [.ref a_o0_items, .int k_o0_size])), (a_o0_items, .inl (cI, n_o0, .inl f_o0_items))] H → va_D A [(a_t, .inr (1, [.long k_t_grid, .long k_t_covered, .long k_t_coverers, .int k_t_reached])), (a_o0, .inr (3, [.ref a_o0_items, .int k_o0_size])), (a_o0_items, .inl (cI, n_o0, .inl f_o0_items))] → va_S A s.heap H locs → lv_has ls 6 [(0, .ref a_t), (1, .ref a_o0), (2, .int v4_2), (3, .int v4_3), (4, .int (mX6_at n_o0 k_o0_size f_o0_items v4_3))] → mX2_firstMisplaced_J42 (mX2_firstMisplaced_L4 k_t_covered k_t_coverers k_t_reached k_o0_size f_o0_items n_o0 n4) k_t_covered k_t_coverers k_o0_size f_o0_items n_o0 v4_2 v4_3 s42_0 = some R → W p l e { frames := 4, cells := 0, slots := 0, locals := 88 } s m ([.ref a_t, .ref a_o0] : List Value).toArray below meth c H locs 0 0 (kQ below G [(a_t, .inr (1, [.long k_t_grid, .long k_t_covered, .long k_t_coverers, .int k_t_reached])), (a_o0, .inr (3, [.ref a_o0_items, .int k_o0_size])), (a_o0_items, .inl (cI, n_o0, .inl f_o0_items))] (some (.int R)) A ([.ref a_t, .ref a_o0] : List Value).toArray s) (F0 m 42 ls [.int (bI s42_0)]) := by
          intro s42_0 H locs ls hP hD hS hl hm
          rw [mX2_firstMisplaced_J42] at hm
          refine lv_istore (lv' := [(5, .int (bI s42_0)), (0, .ref a_t), (1, .ref a_o0), (2, .int v4_2), (3, .int v4_3), (4, .int (mX6_at n_o0 k_o0_size f_o0_items v4_3))]) hx hb dX2_firstMisplaced_42 hl (by decide) rfl (fun ls hl => ?_)
          refine lv_iload hx hb dX2_firstMisplaced_44 (lv_at hl 0 rfl) ?_
          refine lv_if_eq (tgt := 60) hx hb dX2_firstMisplaced_46 (by decide) (fun c46 => ?_) (fun c46 => ?_)
          · have c46 := kb0 c46
            rw [if_neg c46] at hm
            refine lv_iload_n hx hb dX2_firstMisplaced_60 rfl (lv_at hl 4 rfl) ?_
            have hm := Option.some.inj hm
            subst hm
            exact k_iret (v := v4_3) X rfl dX2_firstMisplaced_61 hP hD hS
          · have c46 := kb1 c46
            rw [if_pos c46] at hm
            refine lv_aload_n hx hb dX2_firstMisplaced_49 rfl (lv_at hl 1 rfl) ?_
            refine lv_iload hx hb dX2_firstMisplaced_50 (lv_at hl 5 rfl) ?_
            refine lv_iload_n hx hb dX2_firstMisplaced_52 rfl (lv_at hl 4 rfl) ?_
            refine lv_aload_n hx hb dX2_firstMisplaced_53 rfl (lv_at hl 2 rfl) ?_
            obtain ⟨r54, hc54, hm⟩ := kbind hm
            refine kcV0 (st1 := [.int (bI r54)]) X hA (c_X2_isInPlace l G cI cZ cE a_t a_o0 a_o0_items n_o0 k_t_grid k_t_covered k_t_coverers k_t_reached k_o0_size f_o0_items (mX6_at n_o0 k_o0_size f_o0_items v4_3) v4_3 r54 hc54) (cwV 3 hts gX2_firstMisplaced_X2_isInPlace rfl rfl rfl hd_X2_isInPlace ⟨Nat.le_of_ble_eq_true rfl, Nat.le_of_ble_eq_true rfl⟩) 0 1 rfl rfl hl.1 dX2_firstMisplaced_54 hP hD hS [0, 1, 2] rfl rfl rfl [] rfl (Nat.le_of_ble_eq_true rfl) rfl ⟨Nat.zero_le _, Nat.zero_le _⟩ (fun H locs hP hD hS => ?_)
            refine lv_if_ne (tgt := 62) hx hb dX2_firstMisplaced_57 (by decide) (fun c57 => ?_) (fun c57 => ?_)
            · have c57 := kb1 c57
              rw [if_pos c57] at hm
              refine lv_iload_n hx hb dX2_firstMisplaced_62 rfl (lv_at hl 3 rfl) ?_
              refine lv_iload hx hb dX2_firstMisplaced_63 (lv_at hl 5 rfl) ?_
              refine kcS0 (st1 := [.int (mX5_only (mX6_at n_o0 k_o0_size f_o0_items v4_3)), .int v4_2]) X hA (c_X5_only l G cI cZ cE (mX6_at n_o0 k_o0_size f_o0_items v4_3) _ rfl) (va_cwS 1 hts gX2_firstMisplaced_X5_only rfl rfl rfl hd_X5_only ⟨Nat.le_of_ble_eq_true rfl, Nat.le_of_ble_eq_true rfl⟩) hl.1 dX2_firstMisplaced_65 hP hD hS [] rfl rfl rfl [.int v4_2] rfl (Nat.le_of_ble_eq_true rfl) rfl ⟨Nat.zero_le _, Nat.zero_le _⟩ (fun H locs hP hD hS => ?_)
              refine lv_ior hx hb dX2_firstMisplaced_68 ?_
              refine lv_istore_n (lv' := [(2, .int (v4_2 ||| (mX5_only (mX6_at n_o0 k_o0_size f_o0_items v4_3)))), (5, .int (bI s42_0)), (0, .ref a_t), (1, .ref a_o0), (3, .int v4_3), (4, .int (mX6_at n_o0 k_o0_size f_o0_items v4_3))]) hx hb dX2_firstMisplaced_69 rfl hl (by decide) rfl (fun ls hl => ?_)
              refine lv_iinc (v := v4_3 + 1) (lv' := [(3, .int (v4_3 + 1)), (2, .int (v4_2 ||| (mX5_only (mX6_at n_o0 k_o0_size f_o0_items v4_3)))), (5, .int (bI s42_0)), (0, .ref a_t), (1, .ref a_o0), (4, .int (mX6_at n_o0 k_o0_size f_o0_items v4_3))]) hx hb dX2_firstMisplaced_70 hl (k := 4) rfl rfl (by decide) rfl (fun ls hl => ?_)
              refine lv_goto (tgt := 4) hx hb dX2_firstMisplaced_73 (by decide) ?_
              exact ih4 (v4_2 ||| (mX5_only (mX6_at n_o0 k_o0_size f_o0_items v4_3))) (v4_3 + 1) _ _ _ hP hD hS (lv_sub hl [3, 4, 1, 0] rfl) hm
            · have c57 := kb0 c57
              rw [if_neg c57] at hm
              refine lv_iload_n hx hb dX2_firstMisplaced_60 rfl (lv_at hl 4 rfl) ?_
              have hm := Option.some.inj hm
              subst hm
              exact k_iret (v := v4_3) X rfl dX2_firstMisplaced_61 hP hD hS
        refine lv_if_eq (tgt := 41) hx hb dX2_firstMisplaced_25 (by decide) (fun c25 => ?_) (fun c25 => ?_)
        · have c25 := kb0 c25
          rw [if_neg c25] at hm
          refine lv_iconst (v := 0) hx hb dX2_firstMisplaced_41 (by decide) ?_
          exact h42 false _ _ _ hP hD hS (lv_sub hl [1, 2, 3, 4, 0] rfl) hm
        · have c25 := kb1 c25
          rw [if_pos c25] at hm
          refine lv_iload_n hx hb dX2_firstMisplaced_28 rfl (lv_at hl 3 rfl) ?_
          refine lv_iload hx hb dX2_firstMisplaced_29 (lv_at hl 0 rfl) ?_
          refine kcS0 (st1 := [.int (bI (mX5_isIn v4_2 (mX6_at n_o0 k_o0_size f_o0_items v4_3)))]) X hA (c_X5_isIn l G cI cZ cE v4_2 (mX6_at n_o0 k_o0_size f_o0_items v4_3) _ rfl) (va_cwS 2 hts gX2_firstMisplaced_X5_isIn rfl rfl rfl hd_X5_isIn ⟨Nat.le_of_ble_eq_true rfl, Nat.le_of_ble_eq_true rfl⟩) hl.1 dX2_firstMisplaced_31 hP hD hS [] rfl rfl rfl [] rfl (Nat.le_of_ble_eq_true rfl) rfl ⟨Nat.zero_le _, Nat.zero_le _⟩ (fun H locs hP hD hS => ?_)
          refine lv_if_ne (tgt := 41) hx hb dX2_firstMisplaced_34 (by decide) (fun c34 => ?_) (fun c34 => ?_)
          · have c34 := kb1 c34
            rw [if_pos c34] at hm
            refine lv_iconst (v := 0) hx hb dX2_firstMisplaced_41 (by decide) ?_
            exact h42 false _ _ _ hP hD hS (lv_sub hl [1, 2, 3, 4, 0] rfl) hm
          · have c34 := kb0 c34
            rw [if_neg c34] at hm
            refine lv_iconst (v := 1) hx hb dX2_firstMisplaced_37 (by decide) ?_
            refine lv_goto (tgt := 42) hx hb dX2_firstMisplaced_38 (by decide) ?_
            exact h42 true _ _ _ hP hD hS (lv_sub hl [1, 2, 3, 4, 0] rfl) hm
  exact h4 kFU 0 0 _ _ _ hP hD hS (lv_sub hl [2, 3, 1, 0] rfl) hm
theorem hd_X2_firstMisplaced : yX2_firstMisplaced.cls = RX2 ∧ yX2_firstMisplaced.cls ≠ "java/lang/invoke/MethodHandle" ∧ yX2_firstMisplaced.cls ≠ "java/lang/invoke/VarHandle" ∧ (parseMethodDescriptor yX2_firstMisplaced.desc).map (fun d => d.parameters.length) = some 1 := by decide +kernel
/-! CoverOrder.Covers firstNotShown -/
set_option maxRecDepth 100000 in
set_option maxHeartbeats 4000000 in
theorem c_X2_firstNotShown (l : Launch) (G : va_G) (cI cZ cE : ClassId) (a_t a_o0 a_o0_items : Nat) (n_o0 : Nat) (k_t_grid : Int64) (k_t_covered : Int64) (k_t_coverers : Int64) (k_t_reached : Int32) (k_o0_size : Int32) (f_o0_items : Nat → Int32) (R : Int32) (hm : mX2_firstNotShown n_o0 k_t_grid k_t_covered k_t_coverers k_t_reached k_o0_size f_o0_items = some R) : kM l yX2_firstNotShown wsX2_firstNotShown { frames := 4, cells := 0, slots := 0, locals := 89 } G cI cZ cE [.ref a_t, .ref a_o0] [(a_t, .inr (1, [.long k_t_grid, .long k_t_covered, .long k_t_coverers, .int k_t_reached])), (a_o0, .inr (3, [.ref a_o0_items, .int k_o0_size])), (a_o0_items, .inl (cI, n_o0, .inl f_o0_items))] [(a_t, .inr (1, [.long k_t_grid, .long k_t_covered, .long k_t_coverers, .int k_t_reached])), (a_o0, .inr (3, [.ref a_o0_items, .int k_o0_size])), (a_o0_items, .inl (cI, n_o0, .inl f_o0_items))] (some (.int R)) := by
  refine kM_of cX2_firstNotShown 5 (some .int) RX2 (by decide) rfl rfl (Nat.le_of_ble_eq_true rfl) ?_
  intro p e s m below meth c A ls X hA hP hD hS hl
  have hx := X.1.1
  have hb := X.1.2.1
  have hts := X.1.2.2.2.2
  have hown := X.1.2.2.2.1
  have hK := X.2.2.2.1
  have hl : lv_has ls 5 [(0, .ref a_t), (1, .ref a_o0)] := hl
  rw [mX2_firstNotShown] at hm
  refine lv_iconst (v := 0) hx hb dX2_firstNotShown_0 (by decide) ?_
  refine lv_istore_n (lv' := [(2, .int 0), (0, .ref a_t), (1, .ref a_o0)]) hx hb dX2_firstNotShown_1 rfl hl (by decide) rfl (fun ls hl => ?_)
  refine lv_iconst (v := 0) hx hb dX2_firstNotShown_2 (by decide) ?_
  refine lv_istore_n (lv' := [(3, .int 0), (2, .int 0), (0, .ref a_t), (1, .ref a_o0)]) hx hb dX2_firstNotShown_3 rfl hl (by decide) rfl (fun ls hl => ?_)
  have h4 : ∀ (n4 : Nat), ∀ (v4_2 : Int32) (v4_3 : Int32) (H : Heap) (locs : List Loc) (ls : Array Slot), va_P G vwCl [(a_t, .inr (1, [.long k_t_grid, .long k_t_covered, .long k_t_coverers, .int k_t_reached])), (a_o0, .inr (3, [.ref a_o0_items, .int k_o0_size])), (a_o0_items, .inl (cI, n_o0, .inl f_o0_items))] H → va_D A [(a_t, .inr (1, [.long k_t_grid, .long k_t_covered, .long k_t_coverers, .int k_t_reached])), (a_o0, .inr (3, [.ref a_o0_items, .int k_o0_size])), (a_o0_items, .inl (cI, n_o0, .inl f_o0_items))] → va_S A s.heap H locs → lv_has ls 5 [(0, .ref a_t), (1, .ref a_o0), (2, .int v4_2), (3, .int v4_3)] → mX2_firstNotShown_L4 k_t_grid k_t_covered k_t_coverers k_t_reached k_o0_size f_o0_items n_o0 n4 v4_2 v4_3 = some R → W p l e { frames := 4, cells := 0, slots := 0, locals := 89 } s m ([.ref a_t, .ref a_o0] : List Value).toArray below meth c H locs 0 0 (kQ below G [(a_t, .inr (1, [.long k_t_grid, .long k_t_covered, .long k_t_coverers, .int k_t_reached])), (a_o0, .inr (3, [.ref a_o0_items, .int k_o0_size])), (a_o0_items, .inl (cI, n_o0, .inl f_o0_items))] (some (.int R)) A ([.ref a_t, .ref a_o0] : List Value).toArray s) (F0 m 4 ls []) := by
    intro n4
    induction n4 with
    | zero => intro v4_2 v4_3 H locs ls hP hD hS hl hm; rw [mX2_firstNotShown_L4] at hm; cases hm
    | succ n4 ih4 =>
      intro v4_2 v4_3 H locs ls hP hD hS hl hm
      rw [mX2_firstNotShown_L4] at hm
      refine lv_iload_n hx hb dX2_firstNotShown_4 rfl (lv_at hl 3 rfl) ?_
      refine lv_aload_n hx hb dX2_firstNotShown_5 rfl (lv_at hl 1 rfl) ?_
      refine kcV0 (st1 := [.int (mX6_size k_o0_size), .int v4_3]) X hA (c_X6_size l G cI cZ cE a_o0 a_o0_items k_o0_size _ rfl) (cwV 0 hts gX2_firstNotShown_X6_size rfl rfl rfl hd_X6_size ⟨Nat.le_of_ble_eq_true rfl, Nat.le_of_ble_eq_true rfl⟩) 1 3 rfl rfl hl.1 dX2_firstNotShown_6 hP hD hS [1] rfl rfl rfl [.int v4_3] rfl (Nat.le_of_ble_eq_true rfl) rfl ⟨Nat.zero_le _, Nat.zero_le _⟩ (fun H locs hP hD hS => ?_)
      refine lv_icmp_ge (tgt := 50) hx hb dX2_firstNotShown_9 (by decide) (fun c9 => ?_) (fun c9 => ?_)
      · rw [if_pos c9] at hm
        refine lv_bipush (v := (-9)) hx hb dX2_firstNotShown_50 (by decide) ?_
        have hm := Option.some.inj hm
        subst hm
        exact k_iret (v := (-9)) X rfl dX2_firstNotShown_52 hP hD hS
      · rw [if_neg c9] at hm
        refine lv_aload_n hx hb dX2_firstNotShown_12 rfl (lv_at hl 1 rfl) ?_
        refine lv_iload_n hx hb dX2_firstNotShown_13 rfl (lv_at hl 3 rfl) ?_
        refine kcV0 (st1 := [.int (mX6_at n_o0 k_o0_size f_o0_items v4_3)]) X hA (c_X6_at l G cI cZ cE a_o0 a_o0_items n_o0 k_o0_size f_o0_items v4_3 _ rfl) (cwV 1 hts gX2_firstNotShown_X6_at rfl rfl rfl hd_X6_at ⟨Nat.le_of_ble_eq_true rfl, Nat.le_of_ble_eq_true rfl⟩) 1 3 rfl rfl hl.1 dX2_firstNotShown_14 hP hD hS [1, 2] rfl rfl rfl [] rfl (Nat.le_of_ble_eq_true rfl) rfl ⟨Nat.zero_le _, Nat.zero_le _⟩ (fun H locs hP hD hS => ?_)
        refine lv_istore (lv' := [(4, .int (mX6_at n_o0 k_o0_size f_o0_items v4_3)), (0, .ref a_t), (1, .ref a_o0), (2, .int v4_2), (3, .int v4_3)]) hx hb dX2_firstNotShown_17 hl (by decide) rfl (fun ls hl => ?_)
        refine lv_iload hx hb dX2_firstNotShown_19 (lv_at hl 0 rfl) ?_
        have h36 : ∀ (H : Heap) (locs : List Loc) (ls : Array Slot), va_P G vwCl [(a_t, .inr (1, [.long k_t_grid, .long k_t_covered, .long k_t_coverers, .int k_t_reached])), (a_o0, .inr (3, [.ref a_o0_items, .int k_o0_size])), (a_o0_items, .inl (cI, n_o0, .inl f_o0_items))] H → va_D A [(a_t, .inr (1, [.long k_t_grid, .long k_t_covered, .long k_t_coverers, .int k_t_reached])), (a_o0, .inr (3, [.ref a_o0_items, .int k_o0_size])), (a_o0_items, .inl (cI, n_o0, .inl f_o0_items))] → va_S A s.heap H locs → lv_has ls 5 [(0, .ref a_t), (1, .ref a_o0), (2, .int v4_2), (3, .int v4_3), (4, .int (mX6_at n_o0 k_o0_size f_o0_items v4_3))] → mX2_firstNotShown_J36 (mX2_firstNotShown_L4 k_t_grid k_t_covered k_t_coverers k_t_reached k_o0_size f_o0_items n_o0 n4) k_o0_size f_o0_items n_o0 v4_2 v4_3 = some R → W p l e { frames := 4, cells := 0, slots := 0, locals := 89 } s m ([.ref a_t, .ref a_o0] : List Value).toArray below meth c H locs 0 0 (kQ below G [(a_t, .inr (1, [.long k_t_grid, .long k_t_covered, .long k_t_coverers, .int k_t_reached])), (a_o0, .inr (3, [.ref a_o0_items, .int k_o0_size])), (a_o0_items, .inl (cI, n_o0, .inl f_o0_items))] (some (.int R)) A ([.ref a_t, .ref a_o0] : List Value).toArray s) (F0 m 36 ls []) := by
          intro H locs ls hP hD hS hl hm
          rw [mX2_firstNotShown_J36] at hm
          refine lv_iload_n hx hb dX2_firstNotShown_36 rfl (lv_at hl 2 rfl) ?_
          refine lv_iload hx hb dX2_firstNotShown_37 (lv_at hl 4 rfl) ?_
          refine kcS0 (st1 := [.int (mX5_only (mX6_at n_o0 k_o0_size f_o0_items v4_3)), .int v4_2]) X hA (c_X5_only l G cI cZ cE (mX6_at n_o0 k_o0_size f_o0_items v4_3) _ rfl) (va_cwS 1 hts gX2_firstNotShown_X5_only rfl rfl rfl hd_X5_only ⟨Nat.le_of_ble_eq_true rfl, Nat.le_of_ble_eq_true rfl⟩) hl.1 dX2_firstNotShown_39 hP hD hS [] rfl rfl rfl [.int v4_2] rfl (Nat.le_of_ble_eq_true rfl) rfl ⟨Nat.zero_le _, Nat.zero_le _⟩ (fun H locs hP hD hS => ?_)
          refine lv_ior hx hb dX2_firstNotShown_42 ?_
          refine lv_istore_n (lv' := [(2, .int (v4_2 ||| (mX5_only (mX6_at n_o0 k_o0_size f_o0_items v4_3)))), (0, .ref a_t), (1, .ref a_o0), (3, .int v4_3), (4, .int (mX6_at n_o0 k_o0_size f_o0_items v4_3))]) hx hb dX2_firstNotShown_43 rfl hl (by decide) rfl (fun ls hl => ?_)
          refine lv_iinc (v := v4_3 + 1) (lv' := [(3, .int (v4_3 + 1)), (2, .int (v4_2 ||| (mX5_only (mX6_at n_o0 k_o0_size f_o0_items v4_3)))), (0, .ref a_t), (1, .ref a_o0), (4, .int (mX6_at n_o0 k_o0_size f_o0_items v4_3))]) hx hb dX2_firstNotShown_44 hl (k := 3) rfl rfl (by decide) rfl (fun ls hl => ?_)
          refine lv_goto (tgt := 4) hx hb dX2_firstNotShown_47 (by decide) ?_
          exact ih4 (v4_2 ||| (mX5_only (mX6_at n_o0 k_o0_size f_o0_items v4_3))) (v4_3 + 1) _ _ _ hP hD hS (lv_sub hl [2, 3, 1, 0] rfl) hm
        refine lv_if_eq (tgt := 36) hx hb dX2_firstNotShown_21 (by decide) (fun c21 => ?_) (fun c21 => ?_)
        · rw [if_pos c21] at hm
          exact h36 _ _ _ hP hD hS (lv_sub hl [1, 2, 3, 4, 0] rfl) hm
        · rw [if_neg c21] at hm
          refine lv_aload_n hx hb dX2_firstNotShown_24 rfl (lv_at hl 1 rfl) ?_
          refine lv_iload hx hb dX2_firstNotShown_25 (lv_at hl 0 rfl) ?_
          refine lv_iload_n hx hb dX2_firstNotShown_27 rfl (lv_at hl 3 rfl) ?_
          obtain ⟨r28, hc28, hm⟩ := kbind hm
          refine kcV0 (st1 := [.int (bI r28)]) X hA (c_X2_isShown l G cI cZ cE a_t k_t_grid k_t_covered k_t_coverers k_t_reached (mX6_at n_o0 k_o0_size f_o0_items v4_3) v4_2 r28 hc28) (cwV 2 hts gX2_firstNotShown_X2_isShown rfl rfl rfl hd_X2_isShown ⟨Nat.le_of_ble_eq_true rfl, Nat.le_of_ble_eq_true rfl⟩) 0 1 rfl rfl hl.1 dX2_firstNotShown_28 hP hD hS [0] rfl rfl rfl [] rfl (Nat.le_of_ble_eq_true rfl) rfl ⟨Nat.zero_le _, Nat.zero_le _⟩ (fun H locs hP hD hS => ?_)
          refine lv_if_ne (tgt := 36) hx hb dX2_firstNotShown_31 (by decide) (fun c31 => ?_) (fun c31 => ?_)
          · have c31 := kb1 c31
            rw [if_pos c31] at hm
            exact h36 _ _ _ hP hD hS (lv_sub hl [1, 2, 3, 4, 0] rfl) hm
          · have c31 := kb0 c31
            rw [if_neg c31] at hm
            refine lv_iload_n hx hb dX2_firstNotShown_34 rfl (lv_at hl 4 rfl) ?_
            have hm := Option.some.inj hm
            subst hm
            exact k_iret (v := v4_3) X rfl dX2_firstNotShown_35 hP hD hS
  exact h4 kFU 0 0 _ _ _ hP hD hS (lv_sub hl [2, 3, 1, 0] rfl) hm
theorem hd_X2_firstNotShown : yX2_firstNotShown.cls = RX2 ∧ yX2_firstNotShown.cls ≠ "java/lang/invoke/MethodHandle" ∧ yX2_firstNotShown.cls ≠ "java/lang/invoke/VarHandle" ∧ (parseMethodDescriptor yX2_firstNotShown.desc).map (fun d => d.parameters.length) = some 1 := by decide +kernel
theorem hd_X7_fill : yX7_fill.cls ≠ "java/lang/invoke/MethodHandle" ∧ yX7_fill.cls ≠ "java/lang/invoke/VarHandle" ∧ (parseMethodDescriptor yX7_fill.desc).map (fun d => d.parameters.length) = some 4 := by decide +kernel
/-! CoverOrder.Showing fill -/
set_option maxRecDepth 100000 in
set_option maxHeartbeats 4000000 in
theorem c_X7_fill_rec (l : Launch) (G : va_G) (cI cZ cE : ClassId) (a_o0 a_o0_row a_o0_deadEnds a_o0_row_items a_o0_deadEnds_items a_o1 : Nat) (k_o1_grid : Int64) (k_o1_covered : Int64) (k_o1_coverers : Int64) (k_o1_reached : Int32) : ∀ (d : Nat) (p2 : Int32) (p3 : Int32) (k_o0_row_size : Int32) (f_o0_row_items : Nat → Int32) (k_o0_deadEnds_size : Int32) (f_o0_deadEnds_items : Nat → Int32) (R : Bool × Int32 × (Nat → Int32) × Int32 × (Nat → Int32)) (hm : mX7_fill k_o1_grid k_o1_covered k_o1_coverers k_o1_reached d p2 p3 k_o0_row_size f_o0_row_items k_o0_deadEnds_size f_o0_deadEnds_items = some R), kM l yX7_fill wsX7_fill { frames := 4 + d, cells := 0, slots := 0, locals := 89 + 25 * d } G cI cZ cE [.ref a_o0, .ref a_o1, .int p2, .int p3] [(a_o0, .inr (4, [.ref a_o0_row, .ref a_o0_deadEnds])), (a_o0_row, .inr (3, [.ref a_o0_row_items, .int k_o0_row_size])), (a_o0_row_items, .inl (cI, 8, .inl f_o0_row_items)), (a_o0_deadEnds, .inr (3, [.ref a_o0_deadEnds_items, .int k_o0_deadEnds_size])), (a_o0_deadEnds_items, .inl (cI, 128, .inl f_o0_deadEnds_items)), (a_o1, .inr (1, [.long k_o1_grid, .long k_o1_covered, .long k_o1_coverers, .int k_o1_reached]))] [(a_o0, .inr (4, [.ref a_o0_row, .ref a_o0_deadEnds])), (a_o0_row, .inr (3, [.ref a_o0_row_items, .int R.2.1])), (a_o0_row_items, .inl (cI, 8, .inl R.2.2.1)), (a_o0_deadEnds, .inr (3, [.ref a_o0_deadEnds_items, .int R.2.2.2.1])), (a_o0_deadEnds_items, .inl (cI, 128, .inl R.2.2.2.2)), (a_o1, .inr (1, [.long k_o1_grid, .long k_o1_covered, .long k_o1_coverers, .int k_o1_reached]))] (some (.int (bI R.1))) := by
  intro d
  induction d with
  | zero => intro p2 p3 k_o0_row_size f_o0_row_items k_o0_deadEnds_size f_o0_deadEnds_items R hm; rw [mX7_fill] at hm; cases hm
  | succ d ihd =>
  intro p2 p3 k_o0_row_size f_o0_row_items k_o0_deadEnds_size f_o0_deadEnds_items R hm
  refine kM_of cX7_fill 6 (some .boolean) RX7 (by decide) rfl rfl (Nat.le_of_ble_eq_true rfl) ?_
  intro p e s m below meth c A ls X hA hP hD hS hl
  have hx := X.1.1
  have hb := X.1.2.1
  have hts := X.1.2.2.2.2
  have hown := X.1.2.2.2.1
  have hK := X.2.2.2.1
  have l_42 := va_Nw.use (A := ([.ref a_o0, .ref a_o1, .int p2, .int p3] : List Value).toArray) rfl (X.2.2.2.2.1 _ (List.mem_of_getElem? (i := 2) rfl))
  have i_X2 : ∀ w ∈ u_ws RX2 TX2 4, w ∈ wsX7_fill := k_in _ [84, 85, 86, 87] (by decide +kernel)
  have l_20 : (.fieldLink RX7 20 "CoverOrder$Showing" "deadEnds" "LCoverOrder$Row;" : Cond).before _ s = true := hts _ (List.mem_of_getElem? (i := 1) (by decide +kernel))
  have i_X7 : ∀ w ∈ u_ws RX7 TX7 2, w ∈ wsX7_fill := k_in _ [88, 89] (by decide +kernel)
  have l_14 : (.fieldLink RX7 14 "CoverOrder$Showing" "row" "LCoverOrder$Row;" : Cond).before _ s = true := hts _ (List.mem_of_getElem? (i := 2) (by decide +kernel))
  have hl : lv_has ls 6 [(0, .ref a_o0), (1, .ref a_o1), (2, .int p2), (3, .int p3)] := hl
  rw [mX7_fill] at hm
  refine lv_iload_n hx hb dX7_fill_0 rfl (lv_at hl 2 rfl) ?_
  refine lv_aload_n hx hb dX7_fill_1 rfl (lv_at hl 1 rfl) ?_
  refine va_getN (D := G) (ci := 1) (v := .int k_o1_reached) (C := RX2) (T := TX2) (N := 4) hx hb hts i_X2 hown hK hP 5 rfl rfl 3 (by decide) l_42 (fun _ h9 => h9) rfl dX7_fill_2 ?_
  refine lv_icmp_ne (tgt := 10) hx hb dX7_fill_5 (by decide) (fun c5 => ?_) (fun c5 => ?_)
  · rw [if_neg c5] at hm
    refine lv_iload_n hx hb dX7_fill_10 rfl (lv_at hl 3 rfl) ?_
    refine lv_bipush (v := 8) hx hb dX7_fill_11 (by decide) ?_
    refine lv_icmp_ge (tgt := 29) hx hb dX7_fill_13 (by decide) (fun c13 => ?_) (fun c13 => ?_)
    · rw [if_pos c13] at hm
      refine lv_iconst (v := 0) hx hb dX7_fill_29 (by decide) ?_
      have hm := Option.some.inj hm
      subst hm
      exact k_zret (v := false) X rfl dX7_fill_30 hP hD hS
    · rw [if_neg c13] at hm
      refine lv_aload_n hx hb dX7_fill_16 rfl (lv_at hl 0 rfl) ?_
      refine va_get (D := G) (ci := 4) (v := .ref a_o0_deadEnds) (C := RX7) (T := TX7) (N := 2) hx hb hts i_X7 hown hK hP 0 rfl rfl 1 (by decide) l_20 (fun _ h9 => h9) rfl dX7_fill_17 ?_
      refine lv_iload_n hx hb dX7_fill_20 rfl (lv_at hl 2 rfl) ?_
      obtain ⟨r21, hc21, hm⟩ := kbind hm
      refine kcV0 (st1 := [.int r21]) X hA (c_X6_placeOf l G cI cZ cE a_o0_deadEnds a_o0_deadEnds_items 128 k_o0_deadEnds_size f_o0_deadEnds_items p2 r21 hc21) (cwV 1 hts gX7_fill_X6_placeOf rfl rfl rfl hd_X6_placeOf ⟨by dsimp only; omega, by dsimp only; omega⟩) 3 3 rfl rfl hl.1 dX7_fill_21 hP hD hS [3, 4] rfl rfl rfl [] rfl (Nat.le_of_ble_eq_true rfl) rfl ⟨Nat.zero_le _, Nat.zero_le _⟩ (fun H locs hP hD hS => ?_)
      refine lv_bipush (v := (-9)) hx hb dX7_fill_24 (by decide) ?_
      refine lv_icmp_eq (tgt := 31) hx hb dX7_fill_26 (by decide) (fun c26 => ?_) (fun c26 => ?_)
      · rw [if_pos c26] at hm
        refine lv_aload_n hx hb dX7_fill_31 rfl (lv_at hl 1 rfl) ?_
        refine lv_iload_n hx hb dX7_fill_32 rfl (lv_at hl 2 rfl) ?_
        obtain ⟨r33, hc33, hm⟩ := kbind hm
        refine kcV0 (st1 := [.int r33]) X hA (c_X2_nextBehind l G cI cZ cE a_o1 k_o1_grid k_o1_covered k_o1_coverers k_o1_reached p2 r33 hc33) (cwV 1 hts gX7_fill_X2_nextBehind rfl rfl rfl hd_X2_nextBehind ⟨by dsimp only; omega, by dsimp only; omega⟩) 5 1 rfl rfl hl.1 dX7_fill_33 hP hD hS [5] rfl rfl rfl [] rfl (Nat.le_of_ble_eq_true rfl) rfl ⟨Nat.zero_le _, Nat.zero_le _⟩ (fun H locs hP hD hS => ?_)
        refine lv_istore (lv' := [(4, .int r33), (0, .ref a_o0), (1, .ref a_o1), (2, .int p2), (3, .int p3)]) hx hb dX7_fill_36 hl (by decide) rfl (fun ls hl => ?_)
        refine lv_iconst (v := 0) hx hb dX7_fill_38 (by decide) ?_
        refine lv_istore (lv' := [(5, .int 0), (4, .int r33), (0, .ref a_o0), (1, .ref a_o1), (2, .int p2), (3, .int p3)]) hx hb dX7_fill_39 hl (by decide) rfl (fun ls hl => ?_)
        have h41 : ∀ (n41 : Nat), ∀ (v41_5 : Int32) (w41_k_o0_row_size : Int32) (w41_f_o0_row_items : Nat → Int32) (w41_k_o0_deadEnds_size : Int32) (w41_f_o0_deadEnds_items : Nat → Int32) (H : Heap) (locs : List Loc) (ls : Array Slot), va_P G vwCl [(a_o0, .inr (4, [.ref a_o0_row, .ref a_o0_deadEnds])), (a_o0_row, .inr (3, [.ref a_o0_row_items, .int w41_k_o0_row_size])), (a_o0_row_items, .inl (cI, 8, .inl w41_f_o0_row_items)), (a_o0_deadEnds, .inr (3, [.ref a_o0_deadEnds_items, .int w41_k_o0_deadEnds_size])), (a_o0_deadEnds_items, .inl (cI, 128, .inl w41_f_o0_deadEnds_items)), (a_o1, .inr (1, [.long k_o1_grid, .long k_o1_covered, .long k_o1_coverers, .int k_o1_reached]))] H → va_D A [(a_o0, .inr (4, [.ref a_o0_row, .ref a_o0_deadEnds])), (a_o0_row, .inr (3, [.ref a_o0_row_items, .int w41_k_o0_row_size])), (a_o0_row_items, .inl (cI, 8, .inl w41_f_o0_row_items)), (a_o0_deadEnds, .inr (3, [.ref a_o0_deadEnds_items, .int w41_k_o0_deadEnds_size])), (a_o0_deadEnds_items, .inl (cI, 128, .inl w41_f_o0_deadEnds_items)), (a_o1, .inr (1, [.long k_o1_grid, .long k_o1_covered, .long k_o1_coverers, .int k_o1_reached]))] → va_S A s.heap H locs → lv_has ls 6 [(0, .ref a_o0), (1, .ref a_o1), (2, .int p2), (3, .int p3), (4, .int r33), (5, .int v41_5)] → mX7_fill_L41 (mX7_fill k_o1_grid k_o1_covered k_o1_coverers k_o1_reached d) k_o1_grid k_o1_covered k_o1_coverers k_o1_reached p2 p3 r33 n41 v41_5 w41_k_o0_row_size w41_f_o0_row_items w41_k_o0_deadEnds_size w41_f_o0_deadEnds_items = some R → W p l e { frames := 4 + (d + 1), cells := 0, slots := 0, locals := 89 + 25 * (d + 1) } s m ([.ref a_o0, .ref a_o1, .int p2, .int p3] : List Value).toArray below meth c H locs 0 0 (kQ below G [(a_o0, .inr (4, [.ref a_o0_row, .ref a_o0_deadEnds])), (a_o0_row, .inr (3, [.ref a_o0_row_items, .int R.2.1])), (a_o0_row_items, .inl (cI, 8, .inl R.2.2.1)), (a_o0_deadEnds, .inr (3, [.ref a_o0_deadEnds_items, .int R.2.2.2.1])), (a_o0_deadEnds_items, .inl (cI, 128, .inl R.2.2.2.2)), (a_o1, .inr (1, [.long k_o1_grid, .long k_o1_covered, .long k_o1_coverers, .int k_o1_reached]))] (some (.int (bI R.1))) A ([.ref a_o0, .ref a_o1, .int p2, .int p3] : List Value).toArray s) (F0 m 41 ls []) := by
          intro n41
          induction n41 with
          | zero => intro v41_5 w41_k_o0_row_size w41_f_o0_row_items w41_k_o0_deadEnds_size w41_f_o0_deadEnds_items H locs ls hP hD hS hl hm; rw [mX7_fill_L41] at hm; cases hm
          | succ n41 ih41 =>
            intro v41_5 w41_k_o0_row_size w41_f_o0_row_items w41_k_o0_deadEnds_size w41_f_o0_deadEnds_items H locs ls hP hD hS hl hm
            rw [mX7_fill_L41] at hm
            refine lv_iload hx hb dX7_fill_41 (lv_at hl 5 rfl) ?_
            refine lv_bipush (v := 8) hx hb dX7_fill_43 (by decide) ?_
            have h111 : ∀ (H : Heap) (locs : List Loc) (ls : Array Slot), va_P G vwCl [(a_o0, .inr (4, [.ref a_o0_row, .ref a_o0_deadEnds])), (a_o0_row, .inr (3, [.ref a_o0_row_items, .int w41_k_o0_row_size])), (a_o0_row_items, .inl (cI, 8, .inl w41_f_o0_row_items)), (a_o0_deadEnds, .inr (3, [.ref a_o0_deadEnds_items, .int w41_k_o0_deadEnds_size])), (a_o0_deadEnds_items, .inl (cI, 128, .inl w41_f_o0_deadEnds_items)), (a_o1, .inr (1, [.long k_o1_grid, .long k_o1_covered, .long k_o1_coverers, .int k_o1_reached]))] H → va_D A [(a_o0, .inr (4, [.ref a_o0_row, .ref a_o0_deadEnds])), (a_o0_row, .inr (3, [.ref a_o0_row_items, .int w41_k_o0_row_size])), (a_o0_row_items, .inl (cI, 8, .inl w41_f_o0_row_items)), (a_o0_deadEnds, .inr (3, [.ref a_o0_deadEnds_items, .int w41_k_o0_deadEnds_size])), (a_o0_deadEnds_items, .inl (cI, 128, .inl w41_f_o0_deadEnds_items)), (a_o1, .inr (1, [.long k_o1_grid, .long k_o1_covered, .long k_o1_coverers, .int k_o1_reached]))] → va_S A s.heap H locs → lv_has ls 6 [(0, .ref a_o0), (2, .int p2)] → mX7_fill_J111 p2 w41_k_o0_row_size w41_f_o0_row_items w41_k_o0_deadEnds_size w41_f_o0_deadEnds_items = some R → W p l e { frames := 4 + (d + 1), cells := 0, slots := 0, locals := 89 + 25 * (d + 1) } s m ([.ref a_o0, .ref a_o1, .int p2, .int p3] : List Value).toArray below meth c H locs 0 0 (kQ below G [(a_o0, .inr (4, [.ref a_o0_row, .ref a_o0_deadEnds])), (a_o0_row, .inr (3, [.ref a_o0_row_items, .int R.2.1])), (a_o0_row_items, .inl (cI, 8, .inl R.2.2.1)), (a_o0_deadEnds, .inr (3, [.ref a_o0_deadEnds_items, .int R.2.2.2.1])), (a_o0_deadEnds_items, .inl (cI, 128, .inl R.2.2.2.2)), (a_o1, .inr (1, [.long k_o1_grid, .long k_o1_covered, .long k_o1_coverers, .int k_o1_reached]))] (some (.int (bI R.1))) A ([.ref a_o0, .ref a_o1, .int p2, .int p3] : List Value).toArray s) (F0 m 111 ls []) := by
              intro H locs ls hP hD hS hl hm
              rw [mX7_fill_J111] at hm
              refine lv_aload_n hx hb dX7_fill_111 rfl (lv_at hl 0 rfl) ?_
              refine va_get (D := G) (ci := 4) (v := .ref a_o0_deadEnds) (C := RX7) (T := TX7) (N := 2) hx hb hts i_X7 hown hK hP 0 rfl rfl 1 (by decide) l_20 (fun _ h9 => h9) rfl dX7_fill_112 ?_
              refine lv_iload_n hx hb dX7_fill_115 rfl (lv_at hl 1 rfl) ?_
              obtain ⟨r116, hc116, hm⟩ := kbind hm
              refine kcV (ws1 := [(a_o0, .inr (4, [.ref a_o0_row, .ref a_o0_deadEnds])), (a_o0_row, .inr (3, [.ref a_o0_row_items, .int w41_k_o0_row_size])), (a_o0_row_items, .inl (cI, 8, .inl w41_f_o0_row_items)), (a_o0_deadEnds, .inr (3, [.ref a_o0_deadEnds_items, .int r116.1])), (a_o0_deadEnds_items, .inl (cI, 128, .inl r116.2)), (a_o1, .inr (1, [.long k_o1_grid, .long k_o1_covered, .long k_o1_coverers, .int k_o1_reached]))]) (st1 := []) X hA (c_X6_add l G cI cZ cE a_o0_deadEnds a_o0_deadEnds_items 128 w41_k_o0_deadEnds_size w41_f_o0_deadEnds_items p2 r116 hc116) (cwV 1 hts gX7_fill_X6_add rfl rfl rfl hd_X6_add ⟨by dsimp only; omega, by dsimp only; omega⟩) 3 3 rfl rfl hl.1 dX7_fill_116 hP hD hS [3, 4] rfl rfl rfl rfl rfl [] rfl (Nat.le_of_ble_eq_true rfl) rfl ⟨Nat.zero_le _, Nat.zero_le _⟩ (fun H locs hP hD hS => ?_)
              refine lv_iconst (v := 0) hx hb dX7_fill_119 (by decide) ?_
              have hm := Option.some.inj hm
              subst hm
              exact k_zret (v := false) X rfl dX7_fill_120 hP hD hS
            refine lv_icmp_ge (tgt := 111) hx hb dX7_fill_45 (by decide) (fun c45 => ?_) (fun c45 => ?_)
            · rw [if_pos c45] at hm
              exact h111 _ _ _ hP hD hS (lv_sub hl [0, 2] rfl) hm
            · rw [if_neg c45] at hm
              refine lv_iload hx hb dX7_fill_48 (lv_at hl 4 rfl) ?_
              refine lv_iload hx hb dX7_fill_50 (lv_at hl 5 rfl) ?_
              refine kcS0 (st1 := [.int (bI (mX5_isIn r33 v41_5))]) X hA (c_X5_isIn l G cI cZ cE r33 v41_5 _ rfl) (va_cwS 2 hts gX7_fill_X5_isIn rfl rfl rfl hd_X5_isIn ⟨by dsimp only; omega, by dsimp only; omega⟩) hl.1 dX7_fill_52 hP hD hS [] rfl rfl rfl [] rfl (Nat.le_of_ble_eq_true rfl) rfl ⟨Nat.zero_le _, Nat.zero_le _⟩ (fun H locs hP hD hS => ?_)
              refine lv_if_eq (tgt := 105) hx hb dX7_fill_55 (by decide) (fun c55 => ?_) (fun c55 => ?_)
              · have c55 := kb0 c55
                rw [if_neg c55] at hm
                refine lv_iinc (v := v41_5 + 1) (lv' := [(5, .int (v41_5 + 1)), (0, .ref a_o0), (1, .ref a_o1), (2, .int p2), (3, .int p3), (4, .int r33)]) hx hb dX7_fill_105 hl (k := 5) rfl rfl (by decide) rfl (fun ls hl => ?_)
                refine lv_goto (tgt := 41) hx hb dX7_fill_108 (by decide) ?_
                exact ih41 (v41_5 + 1) w41_k_o0_row_size w41_f_o0_row_items w41_k_o0_deadEnds_size w41_f_o0_deadEnds_items _ _ _ hP hD hS (lv_sub hl [1, 2, 3, 4, 5, 0] rfl) hm
              · have c55 := kb1 c55
                rw [if_pos c55] at hm
                refine lv_aload_n hx hb dX7_fill_58 rfl (lv_at hl 1 rfl) ?_
                refine lv_iload hx hb dX7_fill_59 (lv_at hl 5 rfl) ?_
                refine lv_iload_n hx hb dX7_fill_61 rfl (lv_at hl 2 rfl) ?_
                obtain ⟨r62, hc62, hm⟩ := kbind hm
                refine kcV0 (st1 := [.int (bI r62)]) X hA (c_X2_isShown l G cI cZ cE a_o1 k_o1_grid k_o1_covered k_o1_coverers k_o1_reached v41_5 p2 r62 hc62) (cwV 2 hts gX7_fill_X2_isShown rfl rfl rfl hd_X2_isShown ⟨by dsimp only; omega, by dsimp only; omega⟩) 5 1 rfl rfl hl.1 dX7_fill_62 hP hD hS [5] rfl rfl rfl [] rfl (Nat.le_of_ble_eq_true rfl) rfl ⟨Nat.zero_le _, Nat.zero_le _⟩ (fun H locs hP hD hS => ?_)
                refine lv_if_eq (tgt := 105) hx hb dX7_fill_65 (by decide) (fun c65 => ?_) (fun c65 => ?_)
                · have c65 := kb0 c65
                  rw [if_neg c65] at hm
                  refine lv_iinc (v := v41_5 + 1) (lv' := [(5, .int (v41_5 + 1)), (0, .ref a_o0), (1, .ref a_o1), (2, .int p2), (3, .int p3), (4, .int r33)]) hx hb dX7_fill_105 hl (k := 5) rfl rfl (by decide) rfl (fun ls hl => ?_)
                  refine lv_goto (tgt := 41) hx hb dX7_fill_108 (by decide) ?_
                  exact ih41 (v41_5 + 1) w41_k_o0_row_size w41_f_o0_row_items w41_k_o0_deadEnds_size w41_f_o0_deadEnds_items _ _ _ hP hD hS (lv_sub hl [1, 2, 3, 4, 5, 0] rfl) hm
                · have c65 := kb1 c65
                  rw [if_pos c65] at hm
                  refine lv_aload_n hx hb dX7_fill_68 rfl (lv_at hl 0 rfl) ?_
                  refine va_get (D := G) (ci := 4) (v := .ref a_o0_row) (C := RX7) (T := TX7) (N := 2) hx hb hts i_X7 hown hK hP 0 rfl rfl 0 (by decide) l_14 (fun _ h9 => h9) rfl dX7_fill_69 ?_
                  refine lv_iload hx hb dX7_fill_72 (lv_at hl 5 rfl) ?_
                  obtain ⟨r74, hc74, hm⟩ := kbind hm
                  refine kcV (ws1 := [(a_o0, .inr (4, [.ref a_o0_row, .ref a_o0_deadEnds])), (a_o0_row, .inr (3, [.ref a_o0_row_items, .int r74.1])), (a_o0_row_items, .inl (cI, 8, .inl r74.2)), (a_o0_deadEnds, .inr (3, [.ref a_o0_deadEnds_items, .int w41_k_o0_deadEnds_size])), (a_o0_deadEnds_items, .inl (cI, 128, .inl w41_f_o0_deadEnds_items)), (a_o1, .inr (1, [.long k_o1_grid, .long k_o1_covered, .long k_o1_coverers, .int k_o1_reached]))]) (st1 := []) X hA (c_X6_add l G cI cZ cE a_o0_row a_o0_row_items 8 w41_k_o0_row_size w41_f_o0_row_items v41_5 r74 hc74) (cwV 1 hts gX7_fill_X6_add rfl rfl rfl hd_X6_add ⟨by dsimp only; omega, by dsimp only; omega⟩) 1 3 rfl rfl hl.1 dX7_fill_74 hP hD hS [1, 2] rfl rfl rfl rfl rfl [] rfl (Nat.le_of_ble_eq_true rfl) rfl ⟨Nat.zero_le _, Nat.zero_le _⟩ (fun H locs hP hD hS => ?_)
                  refine lv_aload_n hx hb dX7_fill_77 rfl (lv_at hl 0 rfl) ?_
                  refine lv_aload_n hx hb dX7_fill_78 rfl (lv_at hl 1 rfl) ?_
                  refine lv_iload_n hx hb dX7_fill_79 rfl (lv_at hl 2 rfl) ?_
                  refine lv_iload hx hb dX7_fill_80 (lv_at hl 5 rfl) ?_
                  refine kcS0 (st1 := [.int (mX5_only v41_5), .int p2, .ref a_o1, .ref a_o0]) X hA (c_X5_only l G cI cZ cE v41_5 _ rfl) (va_cwS 1 hts gX7_fill_X5_only rfl rfl rfl hd_X5_only ⟨by dsimp only; omega, by dsimp only; omega⟩) hl.1 dX7_fill_82 hP hD hS [] rfl rfl rfl [.int p2, .ref a_o1, .ref a_o0] rfl (Nat.le_of_ble_eq_true rfl) rfl ⟨Nat.zero_le _, Nat.zero_le _⟩ (fun H locs hP hD hS => ?_)
                  refine lv_ior hx hb dX7_fill_85 ?_
                  refine lv_iload_n hx hb dX7_fill_86 rfl (lv_at hl 3 rfl) ?_
                  refine lv_iconst (v := 1) hx hb dX7_fill_87 (by decide) ?_
                  refine lv_iadd hx hb dX7_fill_88 ?_
                  obtain ⟨r89, hc89, hm⟩ := kbind hm
                  refine kcS (ws1 := [(a_o0, .inr (4, [.ref a_o0_row, .ref a_o0_deadEnds])), (a_o0_row, .inr (3, [.ref a_o0_row_items, .int r89.2.1])), (a_o0_row_items, .inl (cI, 8, .inl r89.2.2.1)), (a_o0_deadEnds, .inr (3, [.ref a_o0_deadEnds_items, .int r89.2.2.2.1])), (a_o0_deadEnds_items, .inl (cI, 128, .inl r89.2.2.2.2)), (a_o1, .inr (1, [.long k_o1_grid, .long k_o1_covered, .long k_o1_coverers, .int k_o1_reached]))]) (st1 := [.int (bI r89.1)]) X hA (ihd (p2 ||| (mX5_only v41_5)) (p3 + 1) r74.1 r74.2 w41_k_o0_deadEnds_size w41_f_o0_deadEnds_items r89 hc89) (va_cwS 4 hts gX7_fill_X7_fill rfl rfl rfl hd_X7_fill ⟨by dsimp only; omega, by dsimp only; omega⟩) hl.1 dX7_fill_89 hP hD hS [0, 1, 2, 3, 4, 5] rfl rfl rfl rfl rfl [] rfl (Nat.le_of_ble_eq_true rfl) rfl ⟨Nat.zero_le _, Nat.zero_le _⟩ (fun H locs hP hD hS => ?_)
                  refine lv_if_eq (tgt := 97) hx hb dX7_fill_92 (by decide) (fun c92 => ?_) (fun c92 => ?_)
                  · have c92 := kb0 c92
                    rw [if_neg c92] at hm
                    refine lv_aload_n hx hb dX7_fill_97 rfl (lv_at hl 0 rfl) ?_
                    refine va_get (D := G) (ci := 4) (v := .ref a_o0_row) (C := RX7) (T := TX7) (N := 2) hx hb hts i_X7 hown hK hP 0 rfl rfl 0 (by decide) l_14 (fun _ h9 => h9) rfl dX7_fill_98 ?_
                    obtain ⟨r101, hc101, hm⟩ := kbind hm
                    refine kcV (ws1 := [(a_o0, .inr (4, [.ref a_o0_row, .ref a_o0_deadEnds])), (a_o0_row, .inr (3, [.ref a_o0_row_items, .int r101.2.1])), (a_o0_row_items, .inl (cI, 8, .inl r101.2.2)), (a_o0_deadEnds, .inr (3, [.ref a_o0_deadEnds_items, .int r89.2.2.2.1])), (a_o0_deadEnds_items, .inl (cI, 128, .inl r89.2.2.2.2)), (a_o1, .inr (1, [.long k_o1_grid, .long k_o1_covered, .long k_o1_coverers, .int k_o1_reached]))]) (st1 := [.int r101.1]) X hA (c_X6_takeLast l G cI cZ cE a_o0_row a_o0_row_items 8 r89.2.1 r89.2.2.1 r101 hc101) (cwV 0 hts gX7_fill_X6_takeLast rfl rfl rfl hd_X6_takeLast ⟨by dsimp only; omega, by dsimp only; omega⟩) 1 3 rfl rfl hl.1 dX7_fill_101 hP hD hS [1, 2] rfl rfl rfl rfl rfl [] rfl (Nat.le_of_ble_eq_true rfl) rfl ⟨Nat.zero_le _, Nat.zero_le _⟩ (fun H locs hP hD hS => ?_)
                    refine lv_pop hx hb dX7_fill_104 rfl ?_
                    refine lv_iinc (v := v41_5 + 1) (lv' := [(5, .int (v41_5 + 1)), (0, .ref a_o0), (1, .ref a_o1), (2, .int p2), (3, .int p3), (4, .int r33)]) hx hb dX7_fill_105 hl (k := 5) rfl rfl (by decide) rfl (fun ls hl => ?_)
                    refine lv_goto (tgt := 41) hx hb dX7_fill_108 (by decide) ?_
                    exact ih41 (v41_5 + 1) r101.2.1 r101.2.2 r89.2.2.2.1 r89.2.2.2.2 _ _ _ hP hD hS (lv_sub hl [1, 2, 3, 4, 5, 0] rfl) hm
                  · have c92 := kb1 c92
                    rw [if_pos c92] at hm
                    refine lv_iconst (v := 1) hx hb dX7_fill_95 (by decide) ?_
                    have hm := Option.some.inj hm
                    subst hm
                    exact k_zret (v := true) X rfl dX7_fill_96 hP hD hS
        exact h41 kFU 0 k_o0_row_size f_o0_row_items k_o0_deadEnds_size f_o0_deadEnds_items _ _ _ hP hD hS (lv_sub hl [2, 3, 4, 5, 1, 0] rfl) hm
      · rw [if_neg c26] at hm
        refine lv_iconst (v := 0) hx hb dX7_fill_29 (by decide) ?_
        have hm := Option.some.inj hm
        subst hm
        exact k_zret (v := false) X rfl dX7_fill_30 hP hD hS
  · rw [if_pos c5] at hm
    refine lv_iconst (v := 1) hx hb dX7_fill_8 (by decide) ?_
    have hm := Option.some.inj hm
    subst hm
    exact k_zret (v := true) X rfl dX7_fill_9 hP hD hS
theorem c_X7_fill (l : Launch) (G : va_G) (cI cZ cE : ClassId) (a_o0 a_o0_row a_o0_deadEnds a_o0_row_items a_o0_deadEnds_items a_o1 : Nat) (k_o0_row_size : Int32) (f_o0_row_items : Nat → Int32) (k_o0_deadEnds_size : Int32) (f_o0_deadEnds_items : Nat → Int32) (k_o1_grid : Int64) (k_o1_covered : Int64) (k_o1_coverers : Int64) (k_o1_reached : Int32) (p2 : Int32) (p3 : Int32) (R : Bool × Int32 × (Nat → Int32) × Int32 × (Nat → Int32)) (hm : mX7_fill k_o1_grid k_o1_covered k_o1_coverers k_o1_reached 12 p2 p3 k_o0_row_size f_o0_row_items k_o0_deadEnds_size f_o0_deadEnds_items = some R) : kM l yX7_fill wsX7_fill { frames := 16, cells := 0, slots := 0, locals := 389 } G cI cZ cE [.ref a_o0, .ref a_o1, .int p2, .int p3] [(a_o0, .inr (4, [.ref a_o0_row, .ref a_o0_deadEnds])), (a_o0_row, .inr (3, [.ref a_o0_row_items, .int k_o0_row_size])), (a_o0_row_items, .inl (cI, 8, .inl f_o0_row_items)), (a_o0_deadEnds, .inr (3, [.ref a_o0_deadEnds_items, .int k_o0_deadEnds_size])), (a_o0_deadEnds_items, .inl (cI, 128, .inl f_o0_deadEnds_items)), (a_o1, .inr (1, [.long k_o1_grid, .long k_o1_covered, .long k_o1_coverers, .int k_o1_reached]))] [(a_o0, .inr (4, [.ref a_o0_row, .ref a_o0_deadEnds])), (a_o0_row, .inr (3, [.ref a_o0_row_items, .int R.2.1])), (a_o0_row_items, .inl (cI, 8, .inl R.2.2.1)), (a_o0_deadEnds, .inr (3, [.ref a_o0_deadEnds_items, .int R.2.2.2.1])), (a_o0_deadEnds_items, .inl (cI, 128, .inl R.2.2.2.2)), (a_o1, .inr (1, [.long k_o1_grid, .long k_o1_covered, .long k_o1_coverers, .int k_o1_reached]))] (some (.int (bI R.1))) := c_X7_fill_rec l G cI cZ cE a_o0 a_o0_row a_o0_deadEnds a_o0_row_items a_o0_deadEnds_items a_o1 k_o1_grid k_o1_covered k_o1_coverers k_o1_reached 12 p2 p3 k_o0_row_size f_o0_row_items k_o0_deadEnds_size f_o0_deadEnds_items R hm
/-! CoverOrder.Showing find -/
set_option maxRecDepth 100000 in
set_option maxHeartbeats 4000000 in
theorem c_X7_find (l : Launch) (G : va_G) (cI cZ cE : ClassId) (a_t a_t_row a_t_deadEnds a_t_row_items a_t_deadEnds_items a_o0 : Nat) (k_t_row_size : Int32) (f_t_row_items : Nat → Int32) (k_t_deadEnds_size : Int32) (f_t_deadEnds_items : Nat → Int32) (k_o0_grid : Int64) (k_o0_covered : Int64) (k_o0_coverers : Int64) (k_o0_reached : Int32) (R : Int32 × (Nat → Int32) × Int32 × (Nat → Int32)) (hm : mX7_find k_t_row_size f_t_row_items k_t_deadEnds_size f_t_deadEnds_items k_o0_grid k_o0_covered k_o0_coverers k_o0_reached = some R) : kM l yX7_find wsX7_find { frames := 17, cells := 0, slots := 0, locals := 414 } G cI cZ cE [.ref a_t, .ref a_o0] [(a_t, .inr (4, [.ref a_t_row, .ref a_t_deadEnds])), (a_t_row, .inr (3, [.ref a_t_row_items, .int k_t_row_size])), (a_t_row_items, .inl (cI, 8, .inl f_t_row_items)), (a_t_deadEnds, .inr (3, [.ref a_t_deadEnds_items, .int k_t_deadEnds_size])), (a_t_deadEnds_items, .inl (cI, 128, .inl f_t_deadEnds_items)), (a_o0, .inr (1, [.long k_o0_grid, .long k_o0_covered, .long k_o0_coverers, .int k_o0_reached]))] [(a_t, .inr (4, [.ref a_t_row, .ref a_t_deadEnds])), (a_t_row, .inr (3, [.ref a_t_row_items, .int R.1])), (a_t_row_items, .inl (cI, 8, .inl R.2.1)), (a_t_deadEnds, .inr (3, [.ref a_t_deadEnds_items, .int R.2.2.1])), (a_t_deadEnds_items, .inl (cI, 128, .inl R.2.2.2)), (a_o0, .inr (1, [.long k_o0_grid, .long k_o0_covered, .long k_o0_coverers, .int k_o0_reached]))] none := by
  refine kM_of cX7_find 2 none RX7 (by decide) rfl rfl (Nat.le_of_ble_eq_true rfl) ?_
  intro p e s m below meth c A ls X hA hP hD hS hl
  have hx := X.1.1
  have hb := X.1.2.1
  have hts := X.1.2.2.2.2
  have hown := X.1.2.2.2.1
  have hK := X.2.2.2.1
  have l_14 : (.fieldLink RX7 14 "CoverOrder$Showing" "row" "LCoverOrder$Row;" : Cond).before _ s = true := hts _ (List.mem_of_getElem? (i := 1) (by decide +kernel))
  have i_X7 : ∀ w ∈ u_ws RX7 TX7 2, w ∈ wsX7_find := k_in _ [89, 90] (by decide +kernel)
  have l_20 : (.fieldLink RX7 20 "CoverOrder$Showing" "deadEnds" "LCoverOrder$Row;" : Cond).before _ s = true := hts _ (List.mem_of_getElem? (i := 2) (by decide +kernel))
  have hl : lv_has ls 2 [(0, .ref a_t), (1, .ref a_o0)] := hl
  rw [mX7_find] at hm
  refine lv_aload_n hx hb dX7_find_0 rfl (lv_at hl 0 rfl) ?_
  refine va_get (D := G) (ci := 4) (v := .ref a_t_row) (C := RX7) (T := TX7) (N := 2) hx hb hts i_X7 hown hK hP 0 rfl rfl 0 (by decide) l_14 (fun _ h9 => h9) rfl dX7_find_1 ?_
  refine kcV (ws1 := [(a_t, .inr (4, [.ref a_t_row, .ref a_t_deadEnds])), (a_t_row, .inr (3, [.ref a_t_row_items, .int (mX6_clear k_t_row_size)])), (a_t_row_items, .inl (cI, 8, .inl f_t_row_items)), (a_t_deadEnds, .inr (3, [.ref a_t_deadEnds_items, .int k_t_deadEnds_size])), (a_t_deadEnds_items, .inl (cI, 128, .inl f_t_deadEnds_items)), (a_o0, .inr (1, [.long k_o0_grid, .long k_o0_covered, .long k_o0_coverers, .int k_o0_reached]))]) (st1 := []) X hA (c_X6_clear l G cI cZ cE a_t_row a_t_row_items k_t_row_size _ rfl) (cwV 0 hts gX7_find_X6_clear rfl rfl rfl hd_X6_clear ⟨Nat.le_of_ble_eq_true rfl, Nat.le_of_ble_eq_true rfl⟩) 1 3 rfl rfl hl.1 dX7_find_4 hP hD hS [1] rfl rfl rfl rfl rfl [] rfl (Nat.le_of_ble_eq_true rfl) rfl ⟨Nat.zero_le _, Nat.zero_le _⟩ (fun H locs hP hD hS => ?_)
  refine lv_aload_n hx hb dX7_find_7 rfl (lv_at hl 0 rfl) ?_
  refine va_get (D := G) (ci := 4) (v := .ref a_t_deadEnds) (C := RX7) (T := TX7) (N := 2) hx hb hts i_X7 hown hK hP 0 rfl rfl 1 (by decide) l_20 (fun _ h9 => h9) rfl dX7_find_8 ?_
  refine kcV (ws1 := [(a_t, .inr (4, [.ref a_t_row, .ref a_t_deadEnds])), (a_t_row, .inr (3, [.ref a_t_row_items, .int (mX6_clear k_t_row_size)])), (a_t_row_items, .inl (cI, 8, .inl f_t_row_items)), (a_t_deadEnds, .inr (3, [.ref a_t_deadEnds_items, .int (mX6_clear k_t_deadEnds_size)])), (a_t_deadEnds_items, .inl (cI, 128, .inl f_t_deadEnds_items)), (a_o0, .inr (1, [.long k_o0_grid, .long k_o0_covered, .long k_o0_coverers, .int k_o0_reached]))]) (st1 := []) X hA (c_X6_clear l G cI cZ cE a_t_deadEnds a_t_deadEnds_items k_t_deadEnds_size _ rfl) (cwV 0 hts gX7_find_X6_clear rfl rfl rfl hd_X6_clear ⟨Nat.le_of_ble_eq_true rfl, Nat.le_of_ble_eq_true rfl⟩) 3 3 rfl rfl hl.1 dX7_find_11 hP hD hS [3] rfl rfl rfl rfl rfl [] rfl (Nat.le_of_ble_eq_true rfl) rfl ⟨Nat.zero_le _, Nat.zero_le _⟩ (fun H locs hP hD hS => ?_)
  refine lv_aload_n hx hb dX7_find_14 rfl (lv_at hl 0 rfl) ?_
  refine va_get (D := G) (ci := 4) (v := .ref a_t_row) (C := RX7) (T := TX7) (N := 2) hx hb hts i_X7 hown hK hP 0 rfl rfl 0 (by decide) l_14 (fun _ h9 => h9) rfl dX7_find_15 ?_
  refine lv_iconst (v := 0) hx hb dX7_find_18 (by decide) ?_
  obtain ⟨r19, hc19, hm⟩ := kbind hm
  refine kcV (ws1 := [(a_t, .inr (4, [.ref a_t_row, .ref a_t_deadEnds])), (a_t_row, .inr (3, [.ref a_t_row_items, .int r19.1])), (a_t_row_items, .inl (cI, 8, .inl r19.2)), (a_t_deadEnds, .inr (3, [.ref a_t_deadEnds_items, .int (mX6_clear k_t_deadEnds_size)])), (a_t_deadEnds_items, .inl (cI, 128, .inl f_t_deadEnds_items)), (a_o0, .inr (1, [.long k_o0_grid, .long k_o0_covered, .long k_o0_coverers, .int k_o0_reached]))]) (st1 := []) X hA (c_X6_add l G cI cZ cE a_t_row a_t_row_items 8 (mX6_clear k_t_row_size) f_t_row_items 0 r19 hc19) (cwV 1 hts gX7_find_X6_add rfl rfl rfl hd_X6_add ⟨Nat.le_of_ble_eq_true rfl, Nat.le_of_ble_eq_true rfl⟩) 1 3 rfl rfl hl.1 dX7_find_19 hP hD hS [1, 2] rfl rfl rfl rfl rfl [] rfl (Nat.le_of_ble_eq_true rfl) rfl ⟨Nat.zero_le _, Nat.zero_le _⟩ (fun H locs hP hD hS => ?_)
  refine lv_aload_n hx hb dX7_find_22 rfl (lv_at hl 0 rfl) ?_
  refine lv_aload_n hx hb dX7_find_23 rfl (lv_at hl 1 rfl) ?_
  refine lv_iconst (v := 0) hx hb dX7_find_24 (by decide) ?_
  refine kcS0 (st1 := [.int (mX5_only 0), .ref a_o0, .ref a_t]) X hA (c_X5_only l G cI cZ cE 0 _ rfl) (va_cwS 1 hts gX7_find_X5_only rfl rfl rfl hd_X5_only ⟨Nat.le_of_ble_eq_true rfl, Nat.le_of_ble_eq_true rfl⟩) hl.1 dX7_find_25 hP hD hS [] rfl rfl rfl [.ref a_o0, .ref a_t] rfl (Nat.le_of_ble_eq_true rfl) rfl ⟨Nat.zero_le _, Nat.zero_le _⟩ (fun H locs hP hD hS => ?_)
  refine lv_iconst (v := 1) hx hb dX7_find_28 (by decide) ?_
  obtain ⟨r29, hc29, hm⟩ := kbind hm
  refine kcS (ws1 := [(a_t, .inr (4, [.ref a_t_row, .ref a_t_deadEnds])), (a_t_row, .inr (3, [.ref a_t_row_items, .int r29.2.1])), (a_t_row_items, .inl (cI, 8, .inl r29.2.2.1)), (a_t_deadEnds, .inr (3, [.ref a_t_deadEnds_items, .int r29.2.2.2.1])), (a_t_deadEnds_items, .inl (cI, 128, .inl r29.2.2.2.2)), (a_o0, .inr (1, [.long k_o0_grid, .long k_o0_covered, .long k_o0_coverers, .int k_o0_reached]))]) (st1 := [.int (bI r29.1)]) X hA (c_X7_fill l G cI cZ cE a_t a_t_row a_t_deadEnds a_t_row_items a_t_deadEnds_items a_o0 r19.1 r19.2 (mX6_clear k_t_deadEnds_size) f_t_deadEnds_items k_o0_grid k_o0_covered k_o0_coverers k_o0_reached (mX5_only 0) 1 r29 hc29) (va_cwS 4 hts gX7_find_X7_fill rfl rfl rfl hd_X7_fill ⟨Nat.le_of_ble_eq_true rfl, Nat.le_of_ble_eq_true rfl⟩) hl.1 dX7_find_29 hP hD hS [0, 1, 2, 3, 4, 5] rfl rfl rfl rfl rfl [] rfl (Nat.le_of_ble_eq_true rfl) rfl ⟨Nat.zero_le _, Nat.zero_le _⟩ (fun H locs hP hD hS => ?_)
  refine lv_pop hx hb dX7_find_32 rfl ?_
  have hm := Option.some.inj hm
  subst hm
  exact k_vret X rfl dX7_find_33 hP hD hS
theorem hd_X7_find : yX7_find.cls = RX7 ∧ yX7_find.cls ≠ "java/lang/invoke/MethodHandle" ∧ yX7_find.cls ≠ "java/lang/invoke/VarHandle" ∧ (parseMethodDescriptor yX7_find.desc).map (fun d => d.parameters.length) = some 1 := by decide +kernel
/-! CoverOrder.Showing knotAt -/
set_option maxRecDepth 100000 in
set_option maxHeartbeats 4000000 in
theorem c_X7_knotAt (l : Launch) (G : va_G) (cI cZ cE : ClassId) (a_t a_t_row a_t_deadEnds a_t_row_items : Nat) (k_t_row_size : Int32) (f_t_row_items : Nat → Int32) (p1 : Int32) (R : Int32) (hm : mX7_knotAt k_t_row_size f_t_row_items p1 = R) : kM l yX7_knotAt wsX7_knotAt { frames := 1, cells := 0, slots := 0, locals := 21 } G cI cZ cE [.ref a_t, .int p1] [(a_t, .inr (4, [.ref a_t_row, .ref a_t_deadEnds])), (a_t_row, .inr (3, [.ref a_t_row_items, .int k_t_row_size])), (a_t_row_items, .inl (cI, 8, .inl f_t_row_items))] [(a_t, .inr (4, [.ref a_t_row, .ref a_t_deadEnds])), (a_t_row, .inr (3, [.ref a_t_row_items, .int k_t_row_size])), (a_t_row_items, .inl (cI, 8, .inl f_t_row_items))] (some (.int R)) := by
  refine kM_of cX7_knotAt 2 (some .int) RX7 (by decide) rfl rfl (Nat.le_of_ble_eq_true rfl) ?_
  intro p e s m below meth c A ls X hA hP hD hS hl
  have hx := X.1.1
  have hb := X.1.2.1
  have hts := X.1.2.2.2.2
  have hown := X.1.2.2.2.1
  have hK := X.2.2.2.1
  have l_14 : (.fieldLink RX7 14 "CoverOrder$Showing" "row" "LCoverOrder$Row;" : Cond).before _ s = true := hts _ (List.mem_of_getElem? (i := 1) (by decide +kernel))
  have i_X7 : ∀ w ∈ u_ws RX7 TX7 2, w ∈ wsX7_knotAt := k_in _ [9, 10] (by decide +kernel)
  have hl : lv_has ls 2 [(0, .ref a_t), (1, .int p1)] := hl
  rw [mX7_knotAt] at hm
  refine lv_aload_n hx hb dX7_knotAt_0 rfl (lv_at hl 0 rfl) ?_
  refine va_get (D := G) (ci := 4) (v := .ref a_t_row) (C := RX7) (T := TX7) (N := 2) hx hb hts i_X7 hown hK hP 0 rfl rfl 0 (by decide) l_14 (fun _ h9 => h9) rfl dX7_knotAt_1 ?_
  refine lv_iload_n hx hb dX7_knotAt_4 rfl (lv_at hl 1 rfl) ?_
  refine kcV0 (st1 := [.int (mX6_at 8 k_t_row_size f_t_row_items p1)]) X hA (c_X6_at l G cI cZ cE a_t_row a_t_row_items 8 k_t_row_size f_t_row_items p1 _ rfl) (cwV 1 hts gX7_knotAt_X6_at rfl rfl rfl hd_X6_at ⟨Nat.le_of_ble_eq_true rfl, Nat.le_of_ble_eq_true rfl⟩) 1 3 rfl rfl hl.1 dX7_knotAt_5 hP hD hS [1, 2] rfl rfl rfl [] rfl (Nat.le_of_ble_eq_true rfl) rfl ⟨Nat.zero_le _, Nat.zero_le _⟩ (fun H locs hP hD hS => ?_)
  subst hm
  exact k_iret (v := (mX6_at 8 k_t_row_size f_t_row_items p1)) X rfl dX7_knotAt_8 hP hD hS
theorem hd_X7_knotAt : yX7_knotAt.cls = RX7 ∧ yX7_knotAt.cls ≠ "java/lang/invoke/MethodHandle" ∧ yX7_knotAt.cls ≠ "java/lang/invoke/VarHandle" ∧ (parseMethodDescriptor yX7_knotAt.desc).map (fun d => d.parameters.length) = some 1 := by decide +kernel
/-! CoverOrder.Walk go -/
set_option maxRecDepth 100000 in
set_option maxHeartbeats 4000000 in
theorem c_X9_go (l : Launch) (G : va_G) (cI cZ cE : ClassId) (a_t a_t_met a_t_path a_t_met_items a_t_path_items a_o0 a_o0_row a_o0_row_items : Nat) (k_t_grid : Int64) (k_t_met_size : Int32) (f_t_met_items : Nat → Int32) (k_t_path_size : Int32) (f_t_path_items : Nat → Int32) (k_o0_knots : Int32) (k_o0_nextStamp : Int32) (k_o0_row_size : Int32) (f_o0_row_items : Nat → Int32) (R : Int64 × Int32 × (Nat → Int32) × Int32 × (Nat → Int32)) (hm : mX9_go k_t_grid k_t_met_size f_t_met_items k_t_path_size f_t_path_items k_o0_row_size f_o0_row_items = some R) : kM l yX9_go wsX9_go { frames := 3, cells := 0, slots := 0, locals := 64 } G cI cZ cE [.ref a_t, .ref a_o0] [(a_t, .inr (6, [.ref a_t_met, .ref a_t_path, .long k_t_grid])), (a_t_met, .inr (3, [.ref a_t_met_items, .int k_t_met_size])), (a_t_met_items, .inl (cI, 8, .inl f_t_met_items)), (a_t_path, .inr (3, [.ref a_t_path_items, .int k_t_path_size])), (a_t_path_items, .inl (cI, 8, .inl f_t_path_items)), (a_o0, .inr (2, [.ref a_o0_row, .int k_o0_knots, .int k_o0_nextStamp])), (a_o0_row, .inr (3, [.ref a_o0_row_items, .int k_o0_row_size])), (a_o0_row_items, .inl (cI, 24, .inl f_o0_row_items))] [(a_t, .inr (6, [.ref a_t_met, .ref a_t_path, .long R.1])), (a_t_met, .inr (3, [.ref a_t_met_items, .int R.2.1])), (a_t_met_items, .inl (cI, 8, .inl R.2.2.1)), (a_t_path, .inr (3, [.ref a_t_path_items, .int R.2.2.2.1])), (a_t_path_items, .inl (cI, 8, .inl R.2.2.2.2)), (a_o0, .inr (2, [.ref a_o0_row, .int k_o0_knots, .int k_o0_nextStamp])), (a_o0_row, .inr (3, [.ref a_o0_row_items, .int k_o0_row_size])), (a_o0_row_items, .inl (cI, 24, .inl f_o0_row_items))] none := by
  refine kM_of cX9_go 5 none RX9 (by decide) rfl rfl (Nat.le_of_ble_eq_true rfl) ?_
  intro p e s m below meth c A ls X hA hP hD hS hl
  have hx := X.1.1
  have hb := X.1.2.1
  have hts := X.1.2.2.2.2
  have hown := X.1.2.2.2.1
  have hK := X.2.2.2.1
  have l_29 : (.fieldLink RX9 29 "CoverOrder$Walk" "grid" "J" : Cond).before _ s = true := hts _ (List.mem_of_getElem? (i := 1) (by decide +kernel))
  have i_X9 : ∀ w ∈ u_ws RX9 TX9 3, w ∈ wsX9_go := k_in _ [64, 65, 66] (by decide +kernel)
  have l_14 : (.fieldLink RX9 14 "CoverOrder$Walk" "met" "LCoverOrder$Row;" : Cond).before _ s = true := hts _ (List.mem_of_getElem? (i := 2) (by decide +kernel))
  have l_20 : (.fieldLink RX9 20 "CoverOrder$Walk" "path" "LCoverOrder$Row;" : Cond).before _ s = true := hts _ (List.mem_of_getElem? (i := 3) (by decide +kernel))
  have hl : lv_has ls 5 [(0, .ref a_t), (1, .ref a_o0)] := hl
  rw [mX9_go] at hm
  refine lv_aload_n hx hb dX9_go_0 rfl (lv_at hl 0 rfl) ?_
  refine lv_aload_n hx hb dX9_go_1 rfl (lv_at hl 1 rfl) ?_
  obtain ⟨r2, hc2, hm⟩ := kbind hm
  refine kcV0 (st1 := [.long r2, .ref a_t]) X hA (c_X3_grid l G cI cZ cE a_o0 a_o0_row a_o0_row_items k_o0_knots k_o0_nextStamp k_o0_row_size f_o0_row_items r2 hc2) (cwV 0 hts gX9_go_X3_grid rfl rfl rfl hd_X3_grid ⟨Nat.le_of_ble_eq_true rfl, Nat.le_of_ble_eq_true rfl⟩) 5 2 rfl rfl hl.1 dX9_go_2 hP hD hS [5, 6, 7] rfl rfl rfl [.ref a_t] rfl (Nat.le_of_ble_eq_true rfl) rfl ⟨Nat.zero_le _, Nat.zero_le _⟩ (fun H locs hP hD hS => ?_)
  refine va_put (D := G) (ci := 6) (v := .long r2) (ty := .long) (C := RX9) (T := TX9) (N := 3) hx hb hts i_X9 tyX9 tyX9_ok nmX9 hown hK hP hD hS 0 rfl rfl 2 (by decide) l_29 (fun _ h9 => h9) rfl (by decide +kernel) rfl rfl (Nat.le_of_ble_eq_true rfl) dX9_go_5 (fun H locs hP hD hS => ?_)
  have hP : va_P G vwCl [(a_t, .inr (6, [.ref a_t_met, .ref a_t_path, .long r2])), (a_t_met, .inr (3, [.ref a_t_met_items, .int k_t_met_size])), (a_t_met_items, .inl (cI, 8, .inl f_t_met_items)), (a_t_path, .inr (3, [.ref a_t_path_items, .int k_t_path_size])), (a_t_path_items, .inl (cI, 8, .inl f_t_path_items)), (a_o0, .inr (2, [.ref a_o0_row, .int k_o0_knots, .int k_o0_nextStamp])), (a_o0_row, .inr (3, [.ref a_o0_row_items, .int k_o0_row_size])), (a_o0_row_items, .inl (cI, 24, .inl f_o0_row_items))] H := hP
  have hD : va_D A [(a_t, .inr (6, [.ref a_t_met, .ref a_t_path, .long r2])), (a_t_met, .inr (3, [.ref a_t_met_items, .int k_t_met_size])), (a_t_met_items, .inl (cI, 8, .inl f_t_met_items)), (a_t_path, .inr (3, [.ref a_t_path_items, .int k_t_path_size])), (a_t_path_items, .inl (cI, 8, .inl f_t_path_items)), (a_o0, .inr (2, [.ref a_o0_row, .int k_o0_knots, .int k_o0_nextStamp])), (a_o0_row, .inr (3, [.ref a_o0_row_items, .int k_o0_row_size])), (a_o0_row_items, .inl (cI, 24, .inl f_o0_row_items))] := hD
  refine lv_aload_n hx hb dX9_go_8 rfl (lv_at hl 0 rfl) ?_
  refine va_get (D := G) (ci := 6) (v := .ref a_t_met) (C := RX9) (T := TX9) (N := 3) hx hb hts i_X9 hown hK hP 0 rfl rfl 0 (by decide) l_14 (fun _ h9 => h9) rfl dX9_go_9 ?_
  refine kcV (ws1 := [(a_t, .inr (6, [.ref a_t_met, .ref a_t_path, .long r2])), (a_t_met, .inr (3, [.ref a_t_met_items, .int (mX6_clear k_t_met_size)])), (a_t_met_items, .inl (cI, 8, .inl f_t_met_items)), (a_t_path, .inr (3, [.ref a_t_path_items, .int k_t_path_size])), (a_t_path_items, .inl (cI, 8, .inl f_t_path_items)), (a_o0, .inr (2, [.ref a_o0_row, .int k_o0_knots, .int k_o0_nextStamp])), (a_o0_row, .inr (3, [.ref a_o0_row_items, .int k_o0_row_size])), (a_o0_row_items, .inl (cI, 24, .inl f_o0_row_items))]) (st1 := []) X hA (c_X6_clear l G cI cZ cE a_t_met a_t_met_items k_t_met_size _ rfl) (cwV 0 hts gX9_go_X6_clear rfl rfl rfl hd_X6_clear ⟨Nat.le_of_ble_eq_true rfl, Nat.le_of_ble_eq_true rfl⟩) 1 3 rfl rfl hl.1 dX9_go_12 hP hD hS [1] rfl rfl rfl rfl rfl [] rfl (Nat.le_of_ble_eq_true rfl) rfl ⟨Nat.zero_le _, Nat.zero_le _⟩ (fun H locs hP hD hS => ?_)
  refine lv_aload_n hx hb dX9_go_15 rfl (lv_at hl 0 rfl) ?_
  refine va_get (D := G) (ci := 6) (v := .ref a_t_path) (C := RX9) (T := TX9) (N := 3) hx hb hts i_X9 hown hK hP 0 rfl rfl 1 (by decide) l_20 (fun _ h9 => h9) rfl dX9_go_16 ?_
  refine kcV (ws1 := [(a_t, .inr (6, [.ref a_t_met, .ref a_t_path, .long r2])), (a_t_met, .inr (3, [.ref a_t_met_items, .int (mX6_clear k_t_met_size)])), (a_t_met_items, .inl (cI, 8, .inl f_t_met_items)), (a_t_path, .inr (3, [.ref a_t_path_items, .int (mX6_clear k_t_path_size)])), (a_t_path_items, .inl (cI, 8, .inl f_t_path_items)), (a_o0, .inr (2, [.ref a_o0_row, .int k_o0_knots, .int k_o0_nextStamp])), (a_o0_row, .inr (3, [.ref a_o0_row_items, .int k_o0_row_size])), (a_o0_row_items, .inl (cI, 24, .inl f_o0_row_items))]) (st1 := []) X hA (c_X6_clear l G cI cZ cE a_t_path a_t_path_items k_t_path_size _ rfl) (cwV 0 hts gX9_go_X6_clear rfl rfl rfl hd_X6_clear ⟨Nat.le_of_ble_eq_true rfl, Nat.le_of_ble_eq_true rfl⟩) 3 3 rfl rfl hl.1 dX9_go_19 hP hD hS [3] rfl rfl rfl rfl rfl [] rfl (Nat.le_of_ble_eq_true rfl) rfl ⟨Nat.zero_le _, Nat.zero_le _⟩ (fun H locs hP hD hS => ?_)
  refine lv_aload_n hx hb dX9_go_22 rfl (lv_at hl 0 rfl) ?_
  refine va_get (D := G) (ci := 6) (v := .ref a_t_met) (C := RX9) (T := TX9) (N := 3) hx hb hts i_X9 hown hK hP 0 rfl rfl 0 (by decide) l_14 (fun _ h9 => h9) rfl dX9_go_23 ?_
  refine lv_iconst (v := 0) hx hb dX9_go_26 (by decide) ?_
  obtain ⟨r27, hc27, hm⟩ := kbind hm
  refine kcV (ws1 := [(a_t, .inr (6, [.ref a_t_met, .ref a_t_path, .long r2])), (a_t_met, .inr (3, [.ref a_t_met_items, .int r27.1])), (a_t_met_items, .inl (cI, 8, .inl r27.2)), (a_t_path, .inr (3, [.ref a_t_path_items, .int (mX6_clear k_t_path_size)])), (a_t_path_items, .inl (cI, 8, .inl f_t_path_items)), (a_o0, .inr (2, [.ref a_o0_row, .int k_o0_knots, .int k_o0_nextStamp])), (a_o0_row, .inr (3, [.ref a_o0_row_items, .int k_o0_row_size])), (a_o0_row_items, .inl (cI, 24, .inl f_o0_row_items))]) (st1 := []) X hA (c_X6_add l G cI cZ cE a_t_met a_t_met_items 8 (mX6_clear k_t_met_size) f_t_met_items 0 r27 hc27) (cwV 1 hts gX9_go_X6_add rfl rfl rfl hd_X6_add ⟨Nat.le_of_ble_eq_true rfl, Nat.le_of_ble_eq_true rfl⟩) 1 3 rfl rfl hl.1 dX9_go_27 hP hD hS [1, 2] rfl rfl rfl rfl rfl [] rfl (Nat.le_of_ble_eq_true rfl) rfl ⟨Nat.zero_le _, Nat.zero_le _⟩ (fun H locs hP hD hS => ?_)
  refine lv_aload_n hx hb dX9_go_30 rfl (lv_at hl 0 rfl) ?_
  refine va_get (D := G) (ci := 6) (v := .ref a_t_path) (C := RX9) (T := TX9) (N := 3) hx hb hts i_X9 hown hK hP 0 rfl rfl 1 (by decide) l_20 (fun _ h9 => h9) rfl dX9_go_31 ?_
  refine lv_iconst (v := 0) hx hb dX9_go_34 (by decide) ?_
  obtain ⟨r35, hc35, hm⟩ := kbind hm
  refine kcV (ws1 := [(a_t, .inr (6, [.ref a_t_met, .ref a_t_path, .long r2])), (a_t_met, .inr (3, [.ref a_t_met_items, .int r27.1])), (a_t_met_items, .inl (cI, 8, .inl r27.2)), (a_t_path, .inr (3, [.ref a_t_path_items, .int r35.1])), (a_t_path_items, .inl (cI, 8, .inl r35.2)), (a_o0, .inr (2, [.ref a_o0_row, .int k_o0_knots, .int k_o0_nextStamp])), (a_o0_row, .inr (3, [.ref a_o0_row_items, .int k_o0_row_size])), (a_o0_row_items, .inl (cI, 24, .inl f_o0_row_items))]) (st1 := []) X hA (c_X6_add l G cI cZ cE a_t_path a_t_path_items 8 (mX6_clear k_t_path_size) f_t_path_items 0 r35 hc35) (cwV 1 hts gX9_go_X6_add rfl rfl rfl hd_X6_add ⟨Nat.le_of_ble_eq_true rfl, Nat.le_of_ble_eq_true rfl⟩) 3 3 rfl rfl hl.1 dX9_go_35 hP hD hS [3, 4] rfl rfl rfl rfl rfl [] rfl (Nat.le_of_ble_eq_true rfl) rfl ⟨Nat.zero_le _, Nat.zero_le _⟩ (fun H locs hP hD hS => ?_)
  refine lv_iconst (v := 0) hx hb dX9_go_38 (by decide) ?_
  refine kcS0 (st1 := [.int (mX5_only 0)]) X hA (c_X5_only l G cI cZ cE 0 _ rfl) (va_cwS 1 hts gX9_go_X5_only rfl rfl rfl hd_X5_only ⟨Nat.le_of_ble_eq_true rfl, Nat.le_of_ble_eq_true rfl⟩) hl.1 dX9_go_39 hP hD hS [] rfl rfl rfl [] rfl (Nat.le_of_ble_eq_true rfl) rfl ⟨Nat.zero_le _, Nat.zero_le _⟩ (fun H locs hP hD hS => ?_)
  refine lv_istore_n (lv' := [(2, .int (mX5_only 0)), (0, .ref a_t), (1, .ref a_o0)]) hx hb dX9_go_42 rfl hl (by decide) rfl (fun ls hl => ?_)
  refine lv_iconst (v := 0) hx hb dX9_go_43 (by decide) ?_
  refine lv_istore_n (lv' := [(3, .int 0), (2, .int (mX5_only 0)), (0, .ref a_t), (1, .ref a_o0)]) hx hb dX9_go_44 rfl hl (by decide) rfl (fun ls hl => ?_)
  have h45 : ∀ (n45 : Nat), ∀ (v45_2 : Int32) (v45_3 : Int32) (w45_k_t_met_size : Int32) (w45_f_t_met_items : Nat → Int32) (w45_k_t_path_size : Int32) (w45_f_t_path_items : Nat → Int32) (H : Heap) (locs : List Loc) (ls : Array Slot), va_P G vwCl [(a_t, .inr (6, [.ref a_t_met, .ref a_t_path, .long r2])), (a_t_met, .inr (3, [.ref a_t_met_items, .int w45_k_t_met_size])), (a_t_met_items, .inl (cI, 8, .inl w45_f_t_met_items)), (a_t_path, .inr (3, [.ref a_t_path_items, .int w45_k_t_path_size])), (a_t_path_items, .inl (cI, 8, .inl w45_f_t_path_items)), (a_o0, .inr (2, [.ref a_o0_row, .int k_o0_knots, .int k_o0_nextStamp])), (a_o0_row, .inr (3, [.ref a_o0_row_items, .int k_o0_row_size])), (a_o0_row_items, .inl (cI, 24, .inl f_o0_row_items))] H → va_D A [(a_t, .inr (6, [.ref a_t_met, .ref a_t_path, .long r2])), (a_t_met, .inr (3, [.ref a_t_met_items, .int w45_k_t_met_size])), (a_t_met_items, .inl (cI, 8, .inl w45_f_t_met_items)), (a_t_path, .inr (3, [.ref a_t_path_items, .int w45_k_t_path_size])), (a_t_path_items, .inl (cI, 8, .inl w45_f_t_path_items)), (a_o0, .inr (2, [.ref a_o0_row, .int k_o0_knots, .int k_o0_nextStamp])), (a_o0_row, .inr (3, [.ref a_o0_row_items, .int k_o0_row_size])), (a_o0_row_items, .inl (cI, 24, .inl f_o0_row_items))] → va_S A s.heap H locs → lv_has ls 5 [(0, .ref a_t), (1, .ref a_o0), (2, .int v45_2), (3, .int v45_3)] → mX9_go_L45 k_o0_row_size f_o0_row_items r2 n45 v45_2 v45_3 w45_k_t_met_size w45_f_t_met_items w45_k_t_path_size w45_f_t_path_items = some R → W p l e { frames := 3, cells := 0, slots := 0, locals := 64 } s m ([.ref a_t, .ref a_o0] : List Value).toArray below meth c H locs 0 0 (kQ below G [(a_t, .inr (6, [.ref a_t_met, .ref a_t_path, .long R.1])), (a_t_met, .inr (3, [.ref a_t_met_items, .int R.2.1])), (a_t_met_items, .inl (cI, 8, .inl R.2.2.1)), (a_t_path, .inr (3, [.ref a_t_path_items, .int R.2.2.2.1])), (a_t_path_items, .inl (cI, 8, .inl R.2.2.2.2)), (a_o0, .inr (2, [.ref a_o0_row, .int k_o0_knots, .int k_o0_nextStamp])), (a_o0_row, .inr (3, [.ref a_o0_row_items, .int k_o0_row_size])), (a_o0_row_items, .inl (cI, 24, .inl f_o0_row_items))] none A ([.ref a_t, .ref a_o0] : List Value).toArray s) (F0 m 45 ls []) := by
    intro n45
    induction n45 with
    | zero => intro v45_2 v45_3 w45_k_t_met_size w45_f_t_met_items w45_k_t_path_size w45_f_t_path_items H locs ls hP hD hS hl hm; rw [mX9_go_L45] at hm; cases hm
    | succ n45 ih45 =>
      intro v45_2 v45_3 w45_k_t_met_size w45_f_t_met_items w45_k_t_path_size w45_f_t_path_items H locs ls hP hD hS hl hm
      rw [mX9_go_L45] at hm
      refine lv_iload_n hx hb dX9_go_45 rfl (lv_at hl 3 rfl) ?_
      refine lv_bipush (v := 16) hx hb dX9_go_46 (by decide) ?_
      refine lv_icmp_ge (tgt := 134) hx hb dX9_go_48 (by decide) (fun c48 => ?_) (fun c48 => ?_)
      · rw [if_pos c48] at hm
        have hm := Option.some.inj hm
        subst hm
        exact k_vret X rfl dX9_go_134 hP hD hS
      · rw [if_neg c48] at hm
        refine lv_aload_n hx hb dX9_go_51 rfl (lv_at hl 0 rfl) ?_
        refine va_get (D := G) (ci := 6) (v := .ref a_t_path) (C := RX9) (T := TX9) (N := 3) hx hb hts i_X9 hown hK hP 0 rfl rfl 1 (by decide) l_20 (fun _ h9 => h9) rfl dX9_go_52 ?_
        refine kcV0 (st1 := [.int (mX6_size w45_k_t_path_size)]) X hA (c_X6_size l G cI cZ cE a_t_path a_t_path_items w45_k_t_path_size _ rfl) (cwV 0 hts gX9_go_X6_size rfl rfl rfl hd_X6_size ⟨Nat.le_of_ble_eq_true rfl, Nat.le_of_ble_eq_true rfl⟩) 3 3 rfl rfl hl.1 dX9_go_55 hP hD hS [3] rfl rfl rfl [] rfl (Nat.le_of_ble_eq_true rfl) rfl ⟨Nat.zero_le _, Nat.zero_le _⟩ (fun H locs hP hD hS => ?_)
        refine lv_if_le (tgt := 134) hx hb dX9_go_58 (by decide) (fun c58 => ?_) (fun c58 => ?_)
        · rw [if_pos c58] at hm
          have hm := Option.some.inj hm
          subst hm
          exact k_vret X rfl dX9_go_134 hP hD hS
        · rw [if_neg c58] at hm
          refine lv_aload_n hx hb dX9_go_61 rfl (lv_at hl 1 rfl) ?_
          refine lv_aload_n hx hb dX9_go_62 rfl (lv_at hl 0 rfl) ?_
          refine va_get (D := G) (ci := 6) (v := .ref a_t_path) (C := RX9) (T := TX9) (N := 3) hx hb hts i_X9 hown hK hP 0 rfl rfl 1 (by decide) l_20 (fun _ h9 => h9) rfl dX9_go_63 ?_
          refine lv_aload_n hx hb dX9_go_66 rfl (lv_at hl 0 rfl) ?_
          refine va_get (D := G) (ci := 6) (v := .ref a_t_path) (C := RX9) (T := TX9) (N := 3) hx hb hts i_X9 hown hK hP 0 rfl rfl 1 (by decide) l_20 (fun _ h9 => h9) rfl dX9_go_67 ?_
          refine kcV0 (st1 := [.int (mX6_size w45_k_t_path_size), .ref a_t_path, .ref a_o0]) X hA (c_X6_size l G cI cZ cE a_t_path a_t_path_items w45_k_t_path_size _ rfl) (cwV 0 hts gX9_go_X6_size rfl rfl rfl hd_X6_size ⟨Nat.le_of_ble_eq_true rfl, Nat.le_of_ble_eq_true rfl⟩) 3 3 rfl rfl hl.1 dX9_go_70 hP hD hS [3] rfl rfl rfl [.ref a_t_path, .ref a_o0] rfl (Nat.le_of_ble_eq_true rfl) rfl ⟨Nat.zero_le _, Nat.zero_le _⟩ (fun H locs hP hD hS => ?_)
          refine lv_iconst (v := 1) hx hb dX9_go_73 (by decide) ?_
          refine lv_isub hx hb dX9_go_74 ?_
          refine kcV0 (st1 := [.int (mX6_at 8 w45_k_t_path_size w45_f_t_path_items ((mX6_size w45_k_t_path_size) - 1)), .ref a_o0]) X hA (c_X6_at l G cI cZ cE a_t_path a_t_path_items 8 w45_k_t_path_size w45_f_t_path_items ((mX6_size w45_k_t_path_size) - 1) _ rfl) (cwV 1 hts gX9_go_X6_at rfl rfl rfl hd_X6_at ⟨Nat.le_of_ble_eq_true rfl, Nat.le_of_ble_eq_true rfl⟩) 3 3 rfl rfl hl.1 dX9_go_75 hP hD hS [3, 4] rfl rfl rfl [.ref a_o0] rfl (Nat.le_of_ble_eq_true rfl) rfl ⟨Nat.zero_le _, Nat.zero_le _⟩ (fun H locs hP hD hS => ?_)
          refine lv_iload_n hx hb dX9_go_78 rfl (lv_at hl 2 rfl) ?_
          obtain ⟨r79, hc79, hm⟩ := kbind hm
          refine kcV0 (st1 := [.int r79]) X hA (c_X3_firstWayOn l G cI cZ cE a_o0 a_o0_row a_o0_row_items k_o0_knots k_o0_nextStamp k_o0_row_size f_o0_row_items (mX6_at 8 w45_k_t_path_size w45_f_t_path_items ((mX6_size w45_k_t_path_size) - 1)) v45_2 r79 hc79) (cwV 2 hts gX9_go_X3_firstWayOn rfl rfl rfl hd_X3_firstWayOn ⟨Nat.le_of_ble_eq_true rfl, Nat.le_of_ble_eq_true rfl⟩) 5 2 rfl rfl hl.1 dX9_go_79 hP hD hS [5, 6, 7] rfl rfl rfl [] rfl (Nat.le_of_ble_eq_true rfl) rfl ⟨Nat.zero_le _, Nat.zero_le _⟩ (fun H locs hP hD hS => ?_)
          refine lv_istore (lv' := [(4, .int r79), (0, .ref a_t), (1, .ref a_o0), (2, .int v45_2), (3, .int v45_3)]) hx hb dX9_go_82 hl (by decide) rfl (fun ls hl => ?_)
          refine lv_iload hx hb dX9_go_84 (lv_at hl 0 rfl) ?_
          refine lv_bipush (v := (-9)) hx hb dX9_go_86 (by decide) ?_
          refine lv_icmp_ne (tgt := 102) hx hb dX9_go_88 (by decide) (fun c88 => ?_) (fun c88 => ?_)
          · rw [if_neg c88] at hm
            refine lv_aload_n hx hb dX9_go_102 rfl (lv_at hl 1 rfl) ?_
            refine va_get (D := G) (ci := 6) (v := .ref a_t_met) (C := RX9) (T := TX9) (N := 3) hx hb hts i_X9 hown hK hP 0 rfl rfl 0 (by decide) l_14 (fun _ h9 => h9) rfl dX9_go_103 ?_
            refine lv_iload hx hb dX9_go_106 (lv_at hl 0 rfl) ?_
            obtain ⟨r108, hc108, hm⟩ := kbind hm
            refine kcV (ws1 := [(a_t, .inr (6, [.ref a_t_met, .ref a_t_path, .long r2])), (a_t_met, .inr (3, [.ref a_t_met_items, .int r108.1])), (a_t_met_items, .inl (cI, 8, .inl r108.2)), (a_t_path, .inr (3, [.ref a_t_path_items, .int w45_k_t_path_size])), (a_t_path_items, .inl (cI, 8, .inl w45_f_t_path_items)), (a_o0, .inr (2, [.ref a_o0_row, .int k_o0_knots, .int k_o0_nextStamp])), (a_o0_row, .inr (3, [.ref a_o0_row_items, .int k_o0_row_size])), (a_o0_row_items, .inl (cI, 24, .inl f_o0_row_items))]) (st1 := []) X hA (c_X6_add l G cI cZ cE a_t_met a_t_met_items 8 w45_k_t_met_size w45_f_t_met_items r79 r108 hc108) (cwV 1 hts gX9_go_X6_add rfl rfl rfl hd_X6_add ⟨Nat.le_of_ble_eq_true rfl, Nat.le_of_ble_eq_true rfl⟩) 1 3 rfl rfl hl.1 dX9_go_108 hP hD hS [1, 2] rfl rfl rfl rfl rfl [] rfl (Nat.le_of_ble_eq_true rfl) rfl ⟨Nat.zero_le _, Nat.zero_le _⟩ (fun H locs hP hD hS => ?_)
            refine lv_aload_n hx hb dX9_go_111 rfl (lv_at hl 1 rfl) ?_
            refine va_get (D := G) (ci := 6) (v := .ref a_t_path) (C := RX9) (T := TX9) (N := 3) hx hb hts i_X9 hown hK hP 0 rfl rfl 1 (by decide) l_20 (fun _ h9 => h9) rfl dX9_go_112 ?_
            refine lv_iload hx hb dX9_go_115 (lv_at hl 0 rfl) ?_
            obtain ⟨r117, hc117, hm⟩ := kbind hm
            refine kcV (ws1 := [(a_t, .inr (6, [.ref a_t_met, .ref a_t_path, .long r2])), (a_t_met, .inr (3, [.ref a_t_met_items, .int r108.1])), (a_t_met_items, .inl (cI, 8, .inl r108.2)), (a_t_path, .inr (3, [.ref a_t_path_items, .int r117.1])), (a_t_path_items, .inl (cI, 8, .inl r117.2)), (a_o0, .inr (2, [.ref a_o0_row, .int k_o0_knots, .int k_o0_nextStamp])), (a_o0_row, .inr (3, [.ref a_o0_row_items, .int k_o0_row_size])), (a_o0_row_items, .inl (cI, 24, .inl f_o0_row_items))]) (st1 := []) X hA (c_X6_add l G cI cZ cE a_t_path a_t_path_items 8 w45_k_t_path_size w45_f_t_path_items r79 r117 hc117) (cwV 1 hts gX9_go_X6_add rfl rfl rfl hd_X6_add ⟨Nat.le_of_ble_eq_true rfl, Nat.le_of_ble_eq_true rfl⟩) 3 3 rfl rfl hl.1 dX9_go_117 hP hD hS [3, 4] rfl rfl rfl rfl rfl [] rfl (Nat.le_of_ble_eq_true rfl) rfl ⟨Nat.zero_le _, Nat.zero_le _⟩ (fun H locs hP hD hS => ?_)
            refine lv_iload_n hx hb dX9_go_120 rfl (lv_at hl 3 rfl) ?_
            refine lv_iload hx hb dX9_go_121 (lv_at hl 0 rfl) ?_
            refine kcS0 (st1 := [.int (mX5_only r79), .int v45_2]) X hA (c_X5_only l G cI cZ cE r79 _ rfl) (va_cwS 1 hts gX9_go_X5_only rfl rfl rfl hd_X5_only ⟨Nat.le_of_ble_eq_true rfl, Nat.le_of_ble_eq_true rfl⟩) hl.1 dX9_go_123 hP hD hS [] rfl rfl rfl [.int v45_2] rfl (Nat.le_of_ble_eq_true rfl) rfl ⟨Nat.zero_le _, Nat.zero_le _⟩ (fun H locs hP hD hS => ?_)
            refine lv_ior hx hb dX9_go_126 ?_
            refine lv_istore_n (lv' := [(2, .int (v45_2 ||| (mX5_only r79))), (4, .int r79), (0, .ref a_t), (1, .ref a_o0), (3, .int v45_3)]) hx hb dX9_go_127 rfl hl (by decide) rfl (fun ls hl => ?_)
            refine lv_iinc (v := v45_3 + 1) (lv' := [(3, .int (v45_3 + 1)), (2, .int (v45_2 ||| (mX5_only r79))), (4, .int r79), (0, .ref a_t), (1, .ref a_o0)]) hx hb dX9_go_128 hl (k := 4) rfl rfl (by decide) rfl (fun ls hl => ?_)
            refine lv_goto (tgt := 45) hx hb dX9_go_131 (by decide) ?_
            exact ih45 (v45_2 ||| (mX5_only r79)) (v45_3 + 1) r108.1 r108.2 r117.1 r117.2 _ _ _ hP hD hS (lv_sub hl [3, 4, 1, 0] rfl) hm
          · rw [if_pos c88] at hm
            refine lv_aload_n hx hb dX9_go_91 rfl (lv_at hl 1 rfl) ?_
            refine va_get (D := G) (ci := 6) (v := .ref a_t_path) (C := RX9) (T := TX9) (N := 3) hx hb hts i_X9 hown hK hP 0 rfl rfl 1 (by decide) l_20 (fun _ h9 => h9) rfl dX9_go_92 ?_
            obtain ⟨r95, hc95, hm⟩ := kbind hm
            refine kcV (ws1 := [(a_t, .inr (6, [.ref a_t_met, .ref a_t_path, .long r2])), (a_t_met, .inr (3, [.ref a_t_met_items, .int w45_k_t_met_size])), (a_t_met_items, .inl (cI, 8, .inl w45_f_t_met_items)), (a_t_path, .inr (3, [.ref a_t_path_items, .int r95.2.1])), (a_t_path_items, .inl (cI, 8, .inl r95.2.2)), (a_o0, .inr (2, [.ref a_o0_row, .int k_o0_knots, .int k_o0_nextStamp])), (a_o0_row, .inr (3, [.ref a_o0_row_items, .int k_o0_row_size])), (a_o0_row_items, .inl (cI, 24, .inl f_o0_row_items))]) (st1 := [.int r95.1]) X hA (c_X6_takeLast l G cI cZ cE a_t_path a_t_path_items 8 w45_k_t_path_size w45_f_t_path_items r95 hc95) (cwV 0 hts gX9_go_X6_takeLast rfl rfl rfl hd_X6_takeLast ⟨Nat.le_of_ble_eq_true rfl, Nat.le_of_ble_eq_true rfl⟩) 3 3 rfl rfl hl.1 dX9_go_95 hP hD hS [3, 4] rfl rfl rfl rfl rfl [] rfl (Nat.le_of_ble_eq_true rfl) rfl ⟨Nat.zero_le _, Nat.zero_le _⟩ (fun H locs hP hD hS => ?_)
            refine lv_pop hx hb dX9_go_98 rfl ?_
            refine lv_goto (tgt := 128) hx hb dX9_go_99 (by decide) ?_
            refine lv_iinc (v := v45_3 + 1) (lv' := [(3, .int (v45_3 + 1)), (4, .int r79), (0, .ref a_t), (1, .ref a_o0), (2, .int v45_2)]) hx hb dX9_go_128 hl (k := 4) rfl rfl (by decide) rfl (fun ls hl => ?_)
            refine lv_goto (tgt := 45) hx hb dX9_go_131 (by decide) ?_
            exact ih45 v45_2 (v45_3 + 1) w45_k_t_met_size w45_f_t_met_items r95.2.1 r95.2.2 _ _ _ hP hD hS (lv_sub hl [2, 3, 4, 0] rfl) hm
  exact h45 kFU (mX5_only 0) 0 r27.1 r27.2 r35.1 r35.2 _ _ _ hP hD hS (lv_sub hl [2, 3, 1, 0] rfl) hm
theorem hd_X9_go : yX9_go.cls = RX9 ∧ yX9_go.cls ≠ "java/lang/invoke/MethodHandle" ∧ yX9_go.cls ≠ "java/lang/invoke/VarHandle" ∧ (parseMethodDescriptor yX9_go.desc).map (fun d => d.parameters.length) = some 1 := by decide +kernel
/-! CoverOrder.Walk orderOf -/
set_option maxRecDepth 100000 in
set_option maxHeartbeats 4000000 in
theorem c_X9_orderOf (l : Launch) (G : va_G) (cI cZ cE : ClassId) (a_t a_t_met a_t_path a_t_met_items : Nat) (k_t_grid : Int64) (k_t_met_size : Int32) (f_t_met_items : Nat → Int32) (p1 : Int32) (R : Int32) (hm : mX9_orderOf k_t_met_size f_t_met_items p1 = some R) : kM l yX9_orderOf wsX9_orderOf { frames := 2, cells := 0, slots := 0, locals := 43 } G cI cZ cE [.ref a_t, .int p1] [(a_t, .inr (6, [.ref a_t_met, .ref a_t_path, .long k_t_grid])), (a_t_met, .inr (3, [.ref a_t_met_items, .int k_t_met_size])), (a_t_met_items, .inl (cI, 8, .inl f_t_met_items))] [(a_t, .inr (6, [.ref a_t_met, .ref a_t_path, .long k_t_grid])), (a_t_met, .inr (3, [.ref a_t_met_items, .int k_t_met_size])), (a_t_met_items, .inl (cI, 8, .inl f_t_met_items))] (some (.int R)) := by
  refine kM_of cX9_orderOf 2 (some .int) RX9 (by decide) rfl rfl (Nat.le_of_ble_eq_true rfl) ?_
  intro p e s m below meth c A ls X hA hP hD hS hl
  have hx := X.1.1
  have hb := X.1.2.1
  have hts := X.1.2.2.2.2
  have hown := X.1.2.2.2.1
  have hK := X.2.2.2.1
  have l_14 : (.fieldLink RX9 14 "CoverOrder$Walk" "met" "LCoverOrder$Row;" : Cond).before _ s = true := hts _ (List.mem_of_getElem? (i := 1) (by decide +kernel))
  have i_X9 : ∀ w ∈ u_ws RX9 TX9 3, w ∈ wsX9_orderOf := k_in _ [13, 14, 15] (by decide +kernel)
  have hl : lv_has ls 2 [(0, .ref a_t), (1, .int p1)] := hl
  rw [mX9_orderOf] at hm
  refine lv_aload_n hx hb dX9_orderOf_0 rfl (lv_at hl 0 rfl) ?_
  refine va_get (D := G) (ci := 6) (v := .ref a_t_met) (C := RX9) (T := TX9) (N := 3) hx hb hts i_X9 hown hK hP 0 rfl rfl 0 (by decide) l_14 (fun _ h9 => h9) rfl dX9_orderOf_1 ?_
  refine lv_iload_n hx hb dX9_orderOf_4 rfl (lv_at hl 1 rfl) ?_
  obtain ⟨r5, hc5, hm⟩ := kbind hm
  refine kcV0 (st1 := [.int r5]) X hA (c_X6_placeOf l G cI cZ cE a_t_met a_t_met_items 8 k_t_met_size f_t_met_items p1 r5 hc5) (cwV 1 hts gX9_orderOf_X6_placeOf rfl rfl rfl hd_X6_placeOf ⟨Nat.le_of_ble_eq_true rfl, Nat.le_of_ble_eq_true rfl⟩) 1 3 rfl rfl hl.1 dX9_orderOf_5 hP hD hS [1, 2] rfl rfl rfl [] rfl (Nat.le_of_ble_eq_true rfl) rfl ⟨Nat.zero_le _, Nat.zero_le _⟩ (fun H locs hP hD hS => ?_)
  have hm := Option.some.inj hm
  subst hm
  exact k_iret (v := r5) X rfl dX9_orderOf_8 hP hD hS
theorem hd_X9_orderOf : yX9_orderOf.cls = RX9 ∧ yX9_orderOf.cls ≠ "java/lang/invoke/MethodHandle" ∧ yX9_orderOf.cls ≠ "java/lang/invoke/VarHandle" ∧ (parseMethodDescriptor yX9_orderOf.desc).map (fun d => d.parameters.length) = some 1 := by decide +kernel
/-! CoverOrder.Walk startsOfLateWays -/
set_option maxRecDepth 100000 in
set_option maxHeartbeats 4000000 in
theorem c_X9_startsOfLateWays (l : Launch) (G : va_G) (cI cZ cE : ClassId) (a_t a_t_met a_t_path a_t_met_items : Nat) (k_t_grid : Int64) (k_t_met_size : Int32) (f_t_met_items : Nat → Int32) (p1 : Int32) (R : Int32) (hm : mX9_startsOfLateWays k_t_grid k_t_met_size f_t_met_items p1 = some R) : kM l yX9_startsOfLateWays wsX9_startsOfLateWays { frames := 3, cells := 0, slots := 0, locals := 64 } G cI cZ cE [.ref a_t, .int p1] [(a_t, .inr (6, [.ref a_t_met, .ref a_t_path, .long k_t_grid])), (a_t_met, .inr (3, [.ref a_t_met_items, .int k_t_met_size])), (a_t_met_items, .inl (cI, 8, .inl f_t_met_items))] [(a_t, .inr (6, [.ref a_t_met, .ref a_t_path, .long k_t_grid])), (a_t_met, .inr (3, [.ref a_t_met_items, .int k_t_met_size])), (a_t_met_items, .inl (cI, 8, .inl f_t_met_items))] (some (.int R)) := by
  refine kM_of cX9_startsOfLateWays 7 (some .int) RX9 (by decide) rfl rfl (Nat.le_of_ble_eq_true rfl) ?_
  intro p e s m below meth c A ls X hA hP hD hS hl
  have hx := X.1.1
  have hb := X.1.2.1
  have hts := X.1.2.2.2.2
  have hown := X.1.2.2.2.1
  have hK := X.2.2.2.1
  have l_29 : (.fieldLink RX9 29 "CoverOrder$Walk" "grid" "J" : Cond).before _ s = true := hts _ (List.mem_of_getElem? (i := 1) (by decide +kernel))
  have i_X9 : ∀ w ∈ u_ws RX9 TX9 3, w ∈ wsX9_startsOfLateWays := k_in _ [43, 44, 45] (by decide +kernel)
  have hl : lv_has ls 7 [(0, .ref a_t), (1, .int p1)] := hl
  rw [mX9_startsOfLateWays] at hm
  refine lv_aload_n hx hb dX9_startsOfLateWays_0 rfl (lv_at hl 0 rfl) ?_
  refine va_get (D := G) (ci := 6) (v := .long k_t_grid) (C := RX9) (T := TX9) (N := 3) hx hb hts i_X9 hown hK hP 0 rfl rfl 2 (by decide) l_29 (fun _ h9 => h9) rfl dX9_startsOfLateWays_1 ?_
  refine lv_iload_n hx hb dX9_startsOfLateWays_4 rfl (lv_at hl 1 rfl) ?_
  obtain ⟨r5, hc5, hm⟩ := kbind hm
  refine kcS0 (st1 := [.int r5]) X hA (c_X5_column l G cI cZ cE k_t_grid p1 r5 hc5) (va_cwS 2 hts gX9_startsOfLateWays_X5_column rfl rfl rfl hd_X5_column ⟨Nat.le_of_ble_eq_true rfl, Nat.le_of_ble_eq_true rfl⟩) hl.1 dX9_startsOfLateWays_5 hP hD hS [] rfl rfl rfl [] rfl (Nat.le_of_ble_eq_true rfl) rfl ⟨Nat.zero_le _, Nat.zero_le _⟩ (fun H locs hP hD hS => ?_)
  refine lv_istore_n (lv' := [(2, .int r5), (0, .ref a_t), (1, .int p1)]) hx hb dX9_startsOfLateWays_8 rfl hl (by decide) rfl (fun ls hl => ?_)
  refine lv_iload_n hx hb dX9_startsOfLateWays_9 rfl (lv_at hl 0 rfl) ?_
  refine lv_istore_n (lv' := [(3, .int r5), (2, .int r5), (0, .ref a_t), (1, .int p1)]) hx hb dX9_startsOfLateWays_10 rfl hl (by decide) rfl (fun ls hl => ?_)
  refine lv_iconst (v := 0) hx hb dX9_startsOfLateWays_11 (by decide) ?_
  refine lv_istore (lv' := [(4, .int 0), (3, .int r5), (2, .int r5), (0, .ref a_t), (1, .int p1)]) hx hb dX9_startsOfLateWays_12 hl (by decide) rfl (fun ls hl => ?_)
  have h14 : ∀ (n14 : Nat), ∀ (v14_2 : Int32) (v14_3 : Int32) (v14_4 : Int32) (H : Heap) (locs : List Loc) (ls : Array Slot), va_P G vwCl [(a_t, .inr (6, [.ref a_t_met, .ref a_t_path, .long k_t_grid])), (a_t_met, .inr (3, [.ref a_t_met_items, .int k_t_met_size])), (a_t_met_items, .inl (cI, 8, .inl f_t_met_items))] H → va_D A [(a_t, .inr (6, [.ref a_t_met, .ref a_t_path, .long k_t_grid])), (a_t_met, .inr (3, [.ref a_t_met_items, .int k_t_met_size])), (a_t_met_items, .inl (cI, 8, .inl f_t_met_items))] → va_S A s.heap H locs → lv_has ls 7 [(0, .ref a_t), (1, .int p1), (2, .int v14_2), (3, .int v14_3), (4, .int v14_4)] → mX9_startsOfLateWays_L14 k_t_grid k_t_met_size f_t_met_items p1 n14 v14_2 v14_3 v14_4 = some R → W p l e { frames := 3, cells := 0, slots := 0, locals := 64 } s m ([.ref a_t, .int p1] : List Value).toArray below meth c H locs 0 0 (kQ below G [(a_t, .inr (6, [.ref a_t_met, .ref a_t_path, .long k_t_grid])), (a_t_met, .inr (3, [.ref a_t_met_items, .int k_t_met_size])), (a_t_met_items, .inl (cI, 8, .inl f_t_met_items))] (some (.int R)) A ([.ref a_t, .int p1] : List Value).toArray s) (F0 m 14 ls []) := by
    intro n14
    induction n14 with
    | zero => intro v14_2 v14_3 v14_4 H locs ls hP hD hS hl hm; rw [mX9_startsOfLateWays_L14] at hm; cases hm
    | succ n14 ih14 =>
      intro v14_2 v14_3 v14_4 H locs ls hP hD hS hl hm
      rw [mX9_startsOfLateWays_L14] at hm
      refine lv_iload hx hb dX9_startsOfLateWays_14 (lv_at hl 4 rfl) ?_
      refine lv_bipush (v := 8) hx hb dX9_startsOfLateWays_16 (by decide) ?_
      refine lv_icmp_ge (tgt := 88) hx hb dX9_startsOfLateWays_18 (by decide) (fun c18 => ?_) (fun c18 => ?_)
      · rw [if_pos c18] at hm
        refine lv_iload_n hx hb dX9_startsOfLateWays_88 rfl (lv_at hl 2 rfl) ?_
        have hm := Option.some.inj hm
        subst hm
        exact k_iret (v := v14_2) X rfl dX9_startsOfLateWays_89 hP hD hS
      · rw [if_neg c18] at hm
        refine lv_iload_n hx hb dX9_startsOfLateWays_21 rfl (lv_at hl 3 rfl) ?_
        refine lv_if_eq (tgt := 88) hx hb dX9_startsOfLateWays_22 (by decide) (fun c22 => ?_) (fun c22 => ?_)
        · rw [if_pos c22] at hm
          refine lv_iload_n hx hb dX9_startsOfLateWays_88 rfl (lv_at hl 2 rfl) ?_
          have hm := Option.some.inj hm
          subst hm
          exact k_iret (v := v14_2) X rfl dX9_startsOfLateWays_89 hP hD hS
        · rw [if_neg c22] at hm
          refine lv_iload_n hx hb dX9_startsOfLateWays_25 rfl (lv_at hl 3 rfl) ?_
          refine kcS0 (st1 := [.int (mX5_first v14_3)]) X hA (c_X5_first l G cI cZ cE v14_3 _ rfl) (va_cwS 1 hts gX9_startsOfLateWays_X5_first rfl rfl rfl hd_X5_first ⟨Nat.le_of_ble_eq_true rfl, Nat.le_of_ble_eq_true rfl⟩) hl.1 dX9_startsOfLateWays_26 hP hD hS [] rfl rfl rfl [] rfl (Nat.le_of_ble_eq_true rfl) rfl ⟨Nat.zero_le _, Nat.zero_le _⟩ (fun H locs hP hD hS => ?_)
          refine lv_istore (lv' := [(5, .int (mX5_first v14_3)), (0, .ref a_t), (1, .int p1), (2, .int v14_2), (3, .int v14_3), (4, .int v14_4)]) hx hb dX9_startsOfLateWays_29 hl (by decide) rfl (fun ls hl => ?_)
          refine lv_aload_n hx hb dX9_startsOfLateWays_31 rfl (lv_at hl 1 rfl) ?_
          refine lv_iload hx hb dX9_startsOfLateWays_32 (lv_at hl 0 rfl) ?_
          obtain ⟨r34, hc34, hm⟩ := kbind hm
          refine kcV0 (st1 := [.int r34]) X hA (c_X9_orderOf l G cI cZ cE a_t a_t_met a_t_path a_t_met_items k_t_grid k_t_met_size f_t_met_items (mX5_first v14_3) r34 hc34) (cwV 1 hts gX9_startsOfLateWays_X9_orderOf rfl rfl rfl hd_X9_orderOf ⟨Nat.le_of_ble_eq_true rfl, Nat.le_of_ble_eq_true rfl⟩) 0 6 rfl rfl hl.1 dX9_startsOfLateWays_34 hP hD hS [0, 1, 2] rfl rfl rfl [] rfl (Nat.le_of_ble_eq_true rfl) rfl ⟨Nat.zero_le _, Nat.zero_le _⟩ (fun H locs hP hD hS => ?_)
          refine lv_aload_n hx hb dX9_startsOfLateWays_37 rfl (lv_at hl 1 rfl) ?_
          refine lv_iload_n hx hb dX9_startsOfLateWays_38 rfl (lv_at hl 2 rfl) ?_
          obtain ⟨r39, hc39, hm⟩ := kbind hm
          refine kcV0 (st1 := [.int r39, .int r34]) X hA (c_X9_orderOf l G cI cZ cE a_t a_t_met a_t_path a_t_met_items k_t_grid k_t_met_size f_t_met_items p1 r39 hc39) (cwV 1 hts gX9_startsOfLateWays_X9_orderOf rfl rfl rfl hd_X9_orderOf ⟨Nat.le_of_ble_eq_true rfl, Nat.le_of_ble_eq_true rfl⟩) 0 6 rfl rfl hl.1 dX9_startsOfLateWays_39 hP hD hS [0, 1, 2] rfl rfl rfl [.int r34] rfl (Nat.le_of_ble_eq_true rfl) rfl ⟨Nat.zero_le _, Nat.zero_le _⟩ (fun H locs hP hD hS => ?_)
          have h62 : ∀ (s62_0 : Int32) (H : Heap) (locs : List Loc) (ls : Array Slot), va_P G vwCl [(a_t, .inr (6, [.ref a_t_met, .ref a_t_path, .long k_t_grid])), (a_t_met, .inr (3, [.ref a_t_met_items, .int k_t_met_size])), (a_t_met_items, .inl (cI, 8, .inl f_t_met_items))] H → va_D A [(a_t, .inr (6, [.ref a_t_met, .ref a_t_path, .long k_t_grid])), (a_t_met, .inr (3, [.ref a_t_met_items, .int k_t_met_size])), (a_t_met_items, .inl (cI, 8, .inl f_t_met_items))] → va_S A s.heap H locs → lv_has ls 7 [(0, .ref a_t), (1, .int p1), (2, .int v14_2), (3, .int v14_3), (4, .int v14_4), (5, .int (mX5_first v14_3))] → mX9_startsOfLateWays_J62 (mX9_startsOfLateWays_L14 k_t_grid k_t_met_size f_t_met_items p1 n14) v14_2 v14_3 v14_4 s62_0 = some R → W p l e { frames := 3, cells := 0, slots := 0, locals := 64 } s m ([.ref a_t, .int p1] : List Value).toArray below meth c H locs 0 0 (kQ below G [(a_t, .inr (6, [.ref a_t_met, .ref a_t_path, .long k_t_grid])), (a_t_met, .inr (3, [.ref a_t_met_items, .int k_t_met_size])), (a_t_met_items, .inl (cI, 8, .inl f_t_met_items))] (some (.int R)) A ([.ref a_t, .int p1] : List Value).toArray s) (F0 m 62 ls [.int s62_0]) := by
            intro s62_0 H locs ls hP hD hS hl hm
            rw [mX9_startsOfLateWays_J62] at hm
            refine lv_istore (lv' := [(6, .int s62_0), (0, .ref a_t), (1, .int p1), (2, .int v14_2), (3, .int v14_3), (4, .int v14_4), (5, .int (mX5_first v14_3))]) hx hb dX9_startsOfLateWays_62 hl (by decide) rfl (fun ls hl => ?_)
            refine lv_iload_n hx hb dX9_startsOfLateWays_64 rfl (lv_at hl 3 rfl) ?_
            refine lv_iload hx hb dX9_startsOfLateWays_65 (lv_at hl 0 rfl) ?_
            refine lv_ior hx hb dX9_startsOfLateWays_67 ?_
            refine lv_istore_n (lv' := [(2, .int (v14_2 ||| s62_0)), (6, .int s62_0), (0, .ref a_t), (1, .int p1), (3, .int v14_3), (4, .int v14_4), (5, .int (mX5_first v14_3))]) hx hb dX9_startsOfLateWays_68 rfl hl (by decide) rfl (fun ls hl => ?_)
            refine lv_iload_n hx hb dX9_startsOfLateWays_69 rfl (lv_at hl 4 rfl) ?_
            refine lv_iload hx hb dX9_startsOfLateWays_70 (lv_at hl 6 rfl) ?_
            refine kcS0 (st1 := [.int (mX5_only (mX5_first v14_3)), .int v14_3]) X hA (c_X5_only l G cI cZ cE (mX5_first v14_3) _ rfl) (va_cwS 1 hts gX9_startsOfLateWays_X5_only rfl rfl rfl hd_X5_only ⟨Nat.le_of_ble_eq_true rfl, Nat.le_of_ble_eq_true rfl⟩) hl.1 dX9_startsOfLateWays_72 hP hD hS [] rfl rfl rfl [.int v14_3] rfl (Nat.le_of_ble_eq_true rfl) rfl ⟨Nat.zero_le _, Nat.zero_le _⟩ (fun H locs hP hD hS => ?_)
            refine lv_iconst (v := (-1)) hx hb dX9_startsOfLateWays_75 (by decide) ?_
            refine lv_ixor hx hb dX9_startsOfLateWays_76 ?_
            refine lv_iand hx hb dX9_startsOfLateWays_77 ?_
            refine lv_iload hx hb dX9_startsOfLateWays_78 (lv_at hl 1 rfl) ?_
            refine lv_ior hx hb dX9_startsOfLateWays_80 ?_
            refine lv_istore_n (lv' := [(3, .int ((v14_3 &&& ((mX5_only (mX5_first v14_3)) ^^^ (-1))) ||| s62_0)), (2, .int (v14_2 ||| s62_0)), (6, .int s62_0), (0, .ref a_t), (1, .int p1), (4, .int v14_4), (5, .int (mX5_first v14_3))]) hx hb dX9_startsOfLateWays_81 rfl hl (by decide) rfl (fun ls hl => ?_)
            refine lv_iinc (v := v14_4 + 1) (lv' := [(4, .int (v14_4 + 1)), (3, .int ((v14_3 &&& ((mX5_only (mX5_first v14_3)) ^^^ (-1))) ||| s62_0)), (2, .int (v14_2 ||| s62_0)), (6, .int s62_0), (0, .ref a_t), (1, .int p1), (5, .int (mX5_first v14_3))]) hx hb dX9_startsOfLateWays_82 hl (k := 5) rfl rfl (by decide) rfl (fun ls hl => ?_)
            refine lv_goto (tgt := 14) hx hb dX9_startsOfLateWays_85 (by decide) ?_
            exact ih14 (v14_2 ||| s62_0) ((v14_3 &&& ((mX5_only (mX5_first v14_3)) ^^^ (-1))) ||| s62_0) (v14_4 + 1) _ _ _ hP hD hS (lv_sub hl [4, 5, 2, 1, 0] rfl) hm
          refine lv_icmp_le (tgt := 61) hx hb dX9_startsOfLateWays_42 (by decide) (fun c42 => ?_) (fun c42 => ?_)
          · rw [if_pos c42] at hm
            refine lv_iconst (v := 0) hx hb dX9_startsOfLateWays_61 (by decide) ?_
            exact h62 0 _ _ _ hP hD hS (lv_sub hl [1, 2, 3, 4, 5, 0] rfl) hm
          · rw [if_neg c42] at hm
            refine lv_aload_n hx hb dX9_startsOfLateWays_45 rfl (lv_at hl 1 rfl) ?_
            refine va_get (D := G) (ci := 6) (v := .long k_t_grid) (C := RX9) (T := TX9) (N := 3) hx hb hts i_X9 hown hK hP 0 rfl rfl 2 (by decide) l_29 (fun _ h9 => h9) rfl dX9_startsOfLateWays_46 ?_
            refine lv_iload hx hb dX9_startsOfLateWays_49 (lv_at hl 0 rfl) ?_
            obtain ⟨r51, hc51, hm⟩ := kbind hm
            refine kcS0 (st1 := [.int r51]) X hA (c_X5_column l G cI cZ cE k_t_grid (mX5_first v14_3) r51 hc51) (va_cwS 2 hts gX9_startsOfLateWays_X5_column rfl rfl rfl hd_X5_column ⟨Nat.le_of_ble_eq_true rfl, Nat.le_of_ble_eq_true rfl⟩) hl.1 dX9_startsOfLateWays_51 hP hD hS [] rfl rfl rfl [] rfl (Nat.le_of_ble_eq_true rfl) rfl ⟨Nat.zero_le _, Nat.zero_le _⟩ (fun H locs hP hD hS => ?_)
            refine lv_iload_n hx hb dX9_startsOfLateWays_54 rfl (lv_at hl 3 rfl) ?_
            refine lv_iconst (v := (-1)) hx hb dX9_startsOfLateWays_55 (by decide) ?_
            refine lv_ixor hx hb dX9_startsOfLateWays_56 ?_
            refine lv_iand hx hb dX9_startsOfLateWays_57 ?_
            refine lv_goto (tgt := 62) hx hb dX9_startsOfLateWays_58 (by decide) ?_
            exact h62 (r51 &&& (v14_2 ^^^ (-1))) _ _ _ hP hD hS (lv_sub hl [1, 2, 3, 4, 5, 0] rfl) hm
  exact h14 kFU r5 r5 0 _ _ _ hP hD hS (lv_sub hl [3, 4, 2, 1, 0] rfl) hm
theorem hd_X9_startsOfLateWays : yX9_startsOfLateWays.cls = RX9 ∧ yX9_startsOfLateWays.cls ≠ "java/lang/invoke/MethodHandle" ∧ yX9_startsOfLateWays.cls ≠ "java/lang/invoke/VarHandle" ∧ (parseMethodDescriptor yX9_startsOfLateWays.desc).map (fun d => d.parameters.length) = some 1 := by decide +kernel
/-! CoverOrder.Walk halfOf -/
set_option maxRecDepth 100000 in
set_option maxHeartbeats 4000000 in
theorem c_X9_halfOf (l : Launch) (G : va_G) (cI cZ cE : ClassId) (a_t a_t_met a_t_path a_t_met_items : Nat) (k_t_grid : Int64) (k_t_met_size : Int32) (f_t_met_items : Nat → Int32) (p1 : Int32) (R : Int32) (hm : mX9_halfOf k_t_grid k_t_met_size f_t_met_items p1 = some R) : kM l yX9_halfOf wsX9_halfOf { frames := 4, cells := 0, slots := 0, locals := 90 } G cI cZ cE [.ref a_t, .int p1] [(a_t, .inr (6, [.ref a_t_met, .ref a_t_path, .long k_t_grid])), (a_t_met, .inr (3, [.ref a_t_met_items, .int k_t_met_size])), (a_t_met_items, .inl (cI, 8, .inl f_t_met_items))] [(a_t, .inr (6, [.ref a_t_met, .ref a_t_path, .long k_t_grid])), (a_t_met, .inr (3, [.ref a_t_met_items, .int k_t_met_size])), (a_t_met_items, .inl (cI, 8, .inl f_t_met_items))] (some (.int R)) := by
  refine kM_of cX9_halfOf 4 (some .int) RX9 (by decide) rfl rfl (Nat.le_of_ble_eq_true rfl) ?_
  intro p e s m below meth c A ls X hA hP hD hS hl
  have hx := X.1.1
  have hb := X.1.2.1
  have hts := X.1.2.2.2.2
  have hown := X.1.2.2.2.1
  have hK := X.2.2.2.1
  have l_14 : (.fieldLink RX9 14 "CoverOrder$Walk" "met" "LCoverOrder$Row;" : Cond).before _ s = true := hts _ (List.mem_of_getElem? (i := 1) (by decide +kernel))
  have i_X9 : ∀ w ∈ u_ws RX9 TX9 3, w ∈ wsX9_halfOf := k_in _ [53, 54, 55] (by decide +kernel)
  have hl : lv_has ls 4 [(0, .ref a_t), (1, .int p1)] := hl
  rw [mX9_halfOf] at hm
  refine lv_aload_n hx hb dX9_halfOf_0 rfl (lv_at hl 0 rfl) ?_
  refine lv_iload_n hx hb dX9_halfOf_1 rfl (lv_at hl 1 rfl) ?_
  obtain ⟨r2, hc2, hm⟩ := kbind hm
  refine kcV0 (st1 := [.int r2]) X hA (c_X9_orderOf l G cI cZ cE a_t a_t_met a_t_path a_t_met_items k_t_grid k_t_met_size f_t_met_items p1 r2 hc2) (cwV 1 hts gX9_halfOf_X9_orderOf rfl rfl rfl hd_X9_orderOf ⟨Nat.le_of_ble_eq_true rfl, Nat.le_of_ble_eq_true rfl⟩) 0 6 rfl rfl hl.1 dX9_halfOf_2 hP hD hS [0, 1, 2] rfl rfl rfl [] rfl (Nat.le_of_ble_eq_true rfl) rfl ⟨Nat.zero_le _, Nat.zero_le _⟩ (fun H locs hP hD hS => ?_)
  refine lv_bipush (v := (-9)) hx hb dX9_halfOf_5 (by decide) ?_
  refine lv_icmp_eq (tgt := 14) hx hb dX9_halfOf_7 (by decide) (fun c7 => ?_) (fun c7 => ?_)
  · rw [if_pos c7] at hm
    refine lv_bipush (v := (-9)) hx hb dX9_halfOf_14 (by decide) ?_
    have hm := Option.some.inj hm
    subst hm
    exact k_iret (v := (-9)) X rfl dX9_halfOf_16 hP hD hS
  · rw [if_neg c7] at hm
    refine lv_iload_n hx hb dX9_halfOf_10 rfl (lv_at hl 1 rfl) ?_
    refine lv_if_ne (tgt := 17) hx hb dX9_halfOf_11 (by decide) (fun c11 => ?_) (fun c11 => ?_)
    · rw [if_neg c11] at hm
      refine lv_aload_n hx hb dX9_halfOf_17 rfl (lv_at hl 0 rfl) ?_
      refine lv_iload_n hx hb dX9_halfOf_18 rfl (lv_at hl 1 rfl) ?_
      obtain ⟨r19, hc19, hm⟩ := kbind hm
      refine kcV0 (st1 := [.int r19]) X hA (c_X9_startsOfLateWays l G cI cZ cE a_t a_t_met a_t_path a_t_met_items k_t_grid k_t_met_size f_t_met_items p1 r19 hc19) (cwV 1 hts gX9_halfOf_X9_startsOfLateWays rfl rfl rfl hd_X9_startsOfLateWays ⟨Nat.le_of_ble_eq_true rfl, Nat.le_of_ble_eq_true rfl⟩) 0 6 rfl rfl hl.1 dX9_halfOf_19 hP hD hS [0, 1, 2] rfl rfl rfl [] rfl (Nat.le_of_ble_eq_true rfl) rfl ⟨Nat.zero_le _, Nat.zero_le _⟩ (fun H locs hP hD hS => ?_)
      refine lv_istore_n (lv' := [(2, .int r19), (0, .ref a_t), (1, .int p1)]) hx hb dX9_halfOf_22 rfl hl (by decide) rfl (fun ls hl => ?_)
      refine lv_iconst (v := 0) hx hb dX9_halfOf_23 (by decide) ?_
      refine lv_istore_n (lv' := [(3, .int 0), (2, .int r19), (0, .ref a_t), (1, .int p1)]) hx hb dX9_halfOf_24 rfl hl (by decide) rfl (fun ls hl => ?_)
      have h25 : ∀ (n25 : Nat), ∀ (v25_3 : Int32) (H : Heap) (locs : List Loc) (ls : Array Slot), va_P G vwCl [(a_t, .inr (6, [.ref a_t_met, .ref a_t_path, .long k_t_grid])), (a_t_met, .inr (3, [.ref a_t_met_items, .int k_t_met_size])), (a_t_met_items, .inl (cI, 8, .inl f_t_met_items))] H → va_D A [(a_t, .inr (6, [.ref a_t_met, .ref a_t_path, .long k_t_grid])), (a_t_met, .inr (3, [.ref a_t_met_items, .int k_t_met_size])), (a_t_met_items, .inl (cI, 8, .inl f_t_met_items))] → va_S A s.heap H locs → lv_has ls 4 [(0, .ref a_t), (2, .int r19), (3, .int v25_3)] → mX9_halfOf_L25 k_t_met_size f_t_met_items r19 n25 v25_3 = some R → W p l e { frames := 4, cells := 0, slots := 0, locals := 90 } s m ([.ref a_t, .int p1] : List Value).toArray below meth c H locs 0 0 (kQ below G [(a_t, .inr (6, [.ref a_t_met, .ref a_t_path, .long k_t_grid])), (a_t_met, .inr (3, [.ref a_t_met_items, .int k_t_met_size])), (a_t_met_items, .inl (cI, 8, .inl f_t_met_items))] (some (.int R)) A ([.ref a_t, .int p1] : List Value).toArray s) (F0 m 25 ls []) := by
        intro n25
        induction n25 with
        | zero => intro v25_3 H locs ls hP hD hS hl hm; rw [mX9_halfOf_L25] at hm; cases hm
        | succ n25 ih25 =>
          intro v25_3 H locs ls hP hD hS hl hm
          rw [mX9_halfOf_L25] at hm
          refine lv_iload_n hx hb dX9_halfOf_25 rfl (lv_at hl 2 rfl) ?_
          refine lv_aload_n hx hb dX9_halfOf_26 rfl (lv_at hl 0 rfl) ?_
          refine va_get (D := G) (ci := 6) (v := .ref a_t_met) (C := RX9) (T := TX9) (N := 3) hx hb hts i_X9 hown hK hP 0 rfl rfl 0 (by decide) l_14 (fun _ h9 => h9) rfl dX9_halfOf_27 ?_
          refine kcV0 (st1 := [.int (mX6_size k_t_met_size), .int v25_3]) X hA (c_X6_size l G cI cZ cE a_t_met a_t_met_items k_t_met_size _ rfl) (cwV 0 hts gX9_halfOf_X6_size rfl rfl rfl hd_X6_size ⟨Nat.le_of_ble_eq_true rfl, Nat.le_of_ble_eq_true rfl⟩) 1 3 rfl rfl hl.1 dX9_halfOf_30 hP hD hS [1] rfl rfl rfl [.int v25_3] rfl (Nat.le_of_ble_eq_true rfl) rfl ⟨Nat.zero_le _, Nat.zero_le _⟩ (fun H locs hP hD hS => ?_)
          refine lv_icmp_ge (tgt := 66) hx hb dX9_halfOf_33 (by decide) (fun c33 => ?_) (fun c33 => ?_)
          · rw [if_pos c33] at hm
            refine lv_bipush (v := (-9)) hx hb dX9_halfOf_66 (by decide) ?_
            have hm := Option.some.inj hm
            subst hm
            exact k_iret (v := (-9)) X rfl dX9_halfOf_68 hP hD hS
          · rw [if_neg c33] at hm
            refine lv_iload_n hx hb dX9_halfOf_36 rfl (lv_at hl 1 rfl) ?_
            refine lv_aload_n hx hb dX9_halfOf_37 rfl (lv_at hl 0 rfl) ?_
            refine va_get (D := G) (ci := 6) (v := .ref a_t_met) (C := RX9) (T := TX9) (N := 3) hx hb hts i_X9 hown hK hP 0 rfl rfl 0 (by decide) l_14 (fun _ h9 => h9) rfl dX9_halfOf_38 ?_
            refine lv_iload_n hx hb dX9_halfOf_41 rfl (lv_at hl 2 rfl) ?_
            refine kcV0 (st1 := [.int (mX6_at 8 k_t_met_size f_t_met_items v25_3), .int r19]) X hA (c_X6_at l G cI cZ cE a_t_met a_t_met_items 8 k_t_met_size f_t_met_items v25_3 _ rfl) (cwV 1 hts gX9_halfOf_X6_at rfl rfl rfl hd_X6_at ⟨Nat.le_of_ble_eq_true rfl, Nat.le_of_ble_eq_true rfl⟩) 1 3 rfl rfl hl.1 dX9_halfOf_42 hP hD hS [1, 2] rfl rfl rfl [.int r19] rfl (Nat.le_of_ble_eq_true rfl) rfl ⟨Nat.zero_le _, Nat.zero_le _⟩ (fun H locs hP hD hS => ?_)
            refine kcS0 (st1 := [.int (bI (mX5_isIn r19 (mX6_at 8 k_t_met_size f_t_met_items v25_3)))]) X hA (c_X5_isIn l G cI cZ cE r19 (mX6_at 8 k_t_met_size f_t_met_items v25_3) _ rfl) (va_cwS 2 hts gX9_halfOf_X5_isIn rfl rfl rfl hd_X5_isIn ⟨Nat.le_of_ble_eq_true rfl, Nat.le_of_ble_eq_true rfl⟩) hl.1 dX9_halfOf_45 hP hD hS [] rfl rfl rfl [] rfl (Nat.le_of_ble_eq_true rfl) rfl ⟨Nat.zero_le _, Nat.zero_le _⟩ (fun H locs hP hD hS => ?_)
            refine lv_if_eq (tgt := 60) hx hb dX9_halfOf_48 (by decide) (fun c48 => ?_) (fun c48 => ?_)
            · have c48 := kb0 c48
              rw [if_neg c48] at hm
              refine lv_iinc (v := v25_3 + 1) (lv' := [(3, .int (v25_3 + 1)), (0, .ref a_t), (2, .int r19)]) hx hb dX9_halfOf_60 hl (k := 2) rfl rfl (by decide) rfl (fun ls hl => ?_)
              refine lv_goto (tgt := 25) hx hb dX9_halfOf_63 (by decide) ?_
              exact ih25 (v25_3 + 1) _ _ _ hP hD hS (lv_sub hl [1, 2, 0] rfl) hm
            · have c48 := kb1 c48
              rw [if_pos c48] at hm
              refine lv_aload_n hx hb dX9_halfOf_51 rfl (lv_at hl 0 rfl) ?_
              refine va_get (D := G) (ci := 6) (v := .ref a_t_met) (C := RX9) (T := TX9) (N := 3) hx hb hts i_X9 hown hK hP 0 rfl rfl 0 (by decide) l_14 (fun _ h9 => h9) rfl dX9_halfOf_52 ?_
              refine lv_iload_n hx hb dX9_halfOf_55 rfl (lv_at hl 2 rfl) ?_
              refine kcV0 (st1 := [.int (mX6_at 8 k_t_met_size f_t_met_items v25_3)]) X hA (c_X6_at l G cI cZ cE a_t_met a_t_met_items 8 k_t_met_size f_t_met_items v25_3 _ rfl) (cwV 1 hts gX9_halfOf_X6_at rfl rfl rfl hd_X6_at ⟨Nat.le_of_ble_eq_true rfl, Nat.le_of_ble_eq_true rfl⟩) 1 3 rfl rfl hl.1 dX9_halfOf_56 hP hD hS [1, 2] rfl rfl rfl [] rfl (Nat.le_of_ble_eq_true rfl) rfl ⟨Nat.zero_le _, Nat.zero_le _⟩ (fun H locs hP hD hS => ?_)
              have hm := Option.some.inj hm
              subst hm
              exact k_iret (v := (mX6_at 8 k_t_met_size f_t_met_items v25_3)) X rfl dX9_halfOf_59 hP hD hS
      exact h25 kFU 0 _ _ _ hP hD hS (lv_sub hl [2, 1, 0] rfl) hm
    · rw [if_pos c11] at hm
      refine lv_bipush (v := (-9)) hx hb dX9_halfOf_14 (by decide) ?_
      have hm := Option.some.inj hm
      subst hm
      exact k_iret (v := (-9)) X rfl dX9_halfOf_16 hP hD hS
theorem hd_X9_halfOf : yX9_halfOf.cls = RX9 ∧ yX9_halfOf.cls ≠ "java/lang/invoke/MethodHandle" ∧ yX9_halfOf.cls ≠ "java/lang/invoke/VarHandle" ∧ (parseMethodDescriptor yX9_halfOf.desc).map (fun d => d.parameters.length) = some 1 := by decide +kernel
