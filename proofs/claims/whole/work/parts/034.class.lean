/-! CoverOrder write -/
set_option maxRecDepth 100000 in
set_option maxHeartbeats 4000000 in
theorem c_X10_write (l : Launch) (G : va_G) (cI cZ cE : ClassId) (a_t a_t_text a_t_edges a_t_trial a_t_acts a_t_slots a_t_seen a_t_covers a_t_trialCovers a_t_walk a_t_least a_t_told a_t_text_letters a_t_text_letters_items : Nat) (k_t_keptSlots : Int32) (k_t_theSeed : Int64) (k_t_text_letters_size : Int32) (f_t_text_letters_items : Nat → Int32) (p1 : Int32) (R : Int32 × Int32 × (Nat → Int32)) (hm : mX10_write k_t_text_letters_size f_t_text_letters_items p1 = some R) : kM l yX10_write wsX10_write { frames := 4, cells := 0, slots := 0, locals := 85 } G cI cZ cE [.ref a_t, .int p1] [(a_t, .inr (7, [.ref a_t_text, .ref a_t_edges, .ref a_t_trial, .ref a_t_acts, .ref a_t_slots, .ref a_t_seen, .ref a_t_covers, .ref a_t_trialCovers, .ref a_t_walk, .ref a_t_least, .ref a_t_told, .int k_t_keptSlots, .long k_t_theSeed])), (a_t_text, .inr (5, [.ref a_t_text_letters])), (a_t_text_letters, .inr (3, [.ref a_t_text_letters_items, .int k_t_text_letters_size])), (a_t_text_letters_items, .inl (cI, 64, .inl f_t_text_letters_items))] [(a_t, .inr (7, [.ref a_t_text, .ref a_t_edges, .ref a_t_trial, .ref a_t_acts, .ref a_t_slots, .ref a_t_seen, .ref a_t_covers, .ref a_t_trialCovers, .ref a_t_walk, .ref a_t_least, .ref a_t_told, .int k_t_keptSlots, .long k_t_theSeed])), (a_t_text, .inr (5, [.ref a_t_text_letters])), (a_t_text_letters, .inr (3, [.ref a_t_text_letters_items, .int R.2.1])), (a_t_text_letters_items, .inl (cI, 64, .inl R.2.2))] (some (.int R.1)) := by
  refine kM_of cX10_write 2 (some .int) RX10 (by decide) rfl rfl (Nat.le_of_ble_eq_true rfl) ?_
  intro p e s m below meth c A ls X hA hP hD hS hl
  have hx := X.1.1
  have hb := X.1.2.1
  have hts := X.1.2.2.2.2
  have hown := X.1.2.2.2.1
  have hK := X.2.2.2.1
  have l_10 : (.fieldLink RX10 10 "CoverOrder" "text" "LCoverOrder$Text;" : Cond).before _ s = true := hts _ (List.mem_of_getElem? (i := 1) (by decide +kernel))
  have i_X10 : ∀ w ∈ u_ws RX10 TX10 13, w ∈ wsX10_write := k_in _ [36, 37, 38, 39, 40, 41, 42, 43, 44, 45, 46, 47, 48] (by decide +kernel)
  have hl : lv_has ls 2 [(0, .ref a_t), (1, .int p1)] := hl
  rw [mX10_write] at hm
  refine lv_iload_n hx hb dX10_write_0 rfl (lv_at hl 1 rfl) ?_
  refine lv_if_lt (tgt := 11) hx hb dX10_write_1 (by decide) (fun c1 => ?_) (fun c1 => ?_)
  · rw [if_pos c1] at hm
    refine lv_bipush (v := (-2)) hx hb dX10_write_11 (by decide) ?_
    have hm := Option.some.inj hm
    subst hm
    exact k_iret (v := (-2)) X rfl dX10_write_13 hP hD hS
  · rw [if_neg c1] at hm
    refine lv_iload_n hx hb dX10_write_4 rfl (lv_at hl 1 rfl) ?_
    refine lv_sipush (v := 255) hx hb dX10_write_5 (by decide) ?_
    refine lv_icmp_le (tgt := 14) hx hb dX10_write_8 (by decide) (fun c8 => ?_) (fun c8 => ?_)
    · rw [if_pos c8] at hm
      refine lv_aload_n hx hb dX10_write_14 rfl (lv_at hl 0 rfl) ?_
      refine va_get (D := G) (ci := 7) (v := .ref a_t_text) (C := RX10) (T := TX10) (N := 13) hx hb hts i_X10 hown hK hP 0 rfl rfl 0 (by decide) l_10 (fun _ h9 => h9) rfl dX10_write_15 ?_
      refine kcV0 (st1 := [.int (bI (mX8_isFull k_t_text_letters_size))]) X hA (c_X8_isFull l G cI cZ cE a_t_text a_t_text_letters a_t_text_letters_items k_t_text_letters_size f_t_text_letters_items _ rfl) (cwV 0 hts gX10_write_X8_isFull rfl rfl rfl hd_X8_isFull ⟨Nat.le_of_ble_eq_true rfl, Nat.le_of_ble_eq_true rfl⟩) 1 5 rfl rfl hl.1 dX10_write_18 hP hD hS [1, 2, 3] rfl rfl rfl [] rfl (Nat.le_of_ble_eq_true rfl) rfl ⟨Nat.zero_le _, Nat.zero_le _⟩ (fun H locs hP hD hS => ?_)
      refine lv_if_eq (tgt := 27) hx hb dX10_write_21 (by decide) (fun c21 => ?_) (fun c21 => ?_)
      · have c21 := kb0 c21
        rw [if_neg c21] at hm
        refine lv_aload_n hx hb dX10_write_27 rfl (lv_at hl 0 rfl) ?_
        refine va_get (D := G) (ci := 7) (v := .ref a_t_text) (C := RX10) (T := TX10) (N := 13) hx hb hts i_X10 hown hK hP 0 rfl rfl 0 (by decide) l_10 (fun _ h9 => h9) rfl dX10_write_28 ?_
        refine lv_iload_n hx hb dX10_write_31 rfl (lv_at hl 1 rfl) ?_
        obtain ⟨r32, hc32, hm⟩ := kbind hm
        refine kcV (ws1 := [(a_t, .inr (7, [.ref a_t_text, .ref a_t_edges, .ref a_t_trial, .ref a_t_acts, .ref a_t_slots, .ref a_t_seen, .ref a_t_covers, .ref a_t_trialCovers, .ref a_t_walk, .ref a_t_least, .ref a_t_told, .int k_t_keptSlots, .long k_t_theSeed])), (a_t_text, .inr (5, [.ref a_t_text_letters])), (a_t_text_letters, .inr (3, [.ref a_t_text_letters_items, .int r32.1])), (a_t_text_letters_items, .inl (cI, 64, .inl r32.2))]) (st1 := []) X hA (c_X8_add l G cI cZ cE a_t_text a_t_text_letters a_t_text_letters_items k_t_text_letters_size f_t_text_letters_items p1 r32 hc32) (cwV 1 hts gX10_write_X8_add rfl rfl rfl hd_X8_add ⟨Nat.le_of_ble_eq_true rfl, Nat.le_of_ble_eq_true rfl⟩) 1 5 rfl rfl hl.1 dX10_write_32 hP hD hS [1, 2, 3] rfl rfl rfl rfl rfl [] rfl (Nat.le_of_ble_eq_true rfl) rfl ⟨Nat.zero_le _, Nat.zero_le _⟩ (fun H locs hP hD hS => ?_)
        refine lv_aload_n hx hb dX10_write_35 rfl (lv_at hl 0 rfl) ?_
        refine va_get (D := G) (ci := 7) (v := .ref a_t_text) (C := RX10) (T := TX10) (N := 13) hx hb hts i_X10 hown hK hP 0 rfl rfl 0 (by decide) l_10 (fun _ h9 => h9) rfl dX10_write_36 ?_
        refine kcV0 (st1 := [.int (mX8_length r32.1)]) X hA (c_X8_length l G cI cZ cE a_t_text a_t_text_letters a_t_text_letters_items r32.1 _ rfl) (cwV 0 hts gX10_write_X8_length rfl rfl rfl hd_X8_length ⟨Nat.le_of_ble_eq_true rfl, Nat.le_of_ble_eq_true rfl⟩) 1 5 rfl rfl hl.1 dX10_write_39 hP hD hS [1, 2] rfl rfl rfl [] rfl (Nat.le_of_ble_eq_true rfl) rfl ⟨Nat.zero_le _, Nat.zero_le _⟩ (fun H locs hP hD hS => ?_)
        have hm := Option.some.inj hm
        subst hm
        exact k_iret (v := (mX8_length r32.1)) X rfl dX10_write_42 hP hD hS
      · have c21 := kb1 c21
        rw [if_pos c21] at hm
        refine lv_bipush (v := (-4)) hx hb dX10_write_24 (by decide) ?_
        have hm := Option.some.inj hm
        subst hm
        exact k_iret (v := (-4)) X rfl dX10_write_26 hP hD hS
    · rw [if_neg c8] at hm
      refine lv_bipush (v := (-2)) hx hb dX10_write_11 (by decide) ?_
      have hm := Option.some.inj hm
      subst hm
      exact k_iret (v := (-2)) X rfl dX10_write_13 hP hD hS
theorem hd_X10_write : yX10_write.cls = RX10 ∧ yX10_write.cls ≠ "java/lang/invoke/MethodHandle" ∧ yX10_write.cls ≠ "java/lang/invoke/VarHandle" ∧ (parseMethodDescriptor yX10_write.desc).map (fun d => d.parameters.length) = some 1 := by decide +kernel
/-! CoverOrder wipe -/
set_option maxRecDepth 100000 in
set_option maxHeartbeats 4000000 in
theorem c_X10_wipe (l : Launch) (G : va_G) (cI cZ cE : ClassId) (a_t a_t_text a_t_edges a_t_trial a_t_acts a_t_slots a_t_seen a_t_covers a_t_trialCovers a_t_walk a_t_least a_t_told a_t_text_letters a_t_text_letters_items : Nat) (k_t_keptSlots : Int32) (k_t_theSeed : Int64) (k_t_text_letters_size : Int32) (R : Int32 × Int32) (hm : mX10_wipe k_t_text_letters_size = R) : kM l yX10_wipe wsX10_wipe { frames := 2, cells := 0, slots := 0, locals := 40 } G cI cZ cE [.ref a_t] [(a_t, .inr (7, [.ref a_t_text, .ref a_t_edges, .ref a_t_trial, .ref a_t_acts, .ref a_t_slots, .ref a_t_seen, .ref a_t_covers, .ref a_t_trialCovers, .ref a_t_walk, .ref a_t_least, .ref a_t_told, .int k_t_keptSlots, .long k_t_theSeed])), (a_t_text, .inr (5, [.ref a_t_text_letters])), (a_t_text_letters, .inr (3, [.ref a_t_text_letters_items, .int k_t_text_letters_size]))] [(a_t, .inr (7, [.ref a_t_text, .ref a_t_edges, .ref a_t_trial, .ref a_t_acts, .ref a_t_slots, .ref a_t_seen, .ref a_t_covers, .ref a_t_trialCovers, .ref a_t_walk, .ref a_t_least, .ref a_t_told, .int k_t_keptSlots, .long k_t_theSeed])), (a_t_text, .inr (5, [.ref a_t_text_letters])), (a_t_text_letters, .inr (3, [.ref a_t_text_letters_items, .int R.2]))] (some (.int R.1)) := by
  refine kM_of cX10_wipe 2 (some .int) RX10 (by decide) rfl rfl (Nat.le_of_ble_eq_true rfl) ?_
  intro p e s m below meth c A ls X hA hP hD hS hl
  have hx := X.1.1
  have hb := X.1.2.1
  have hts := X.1.2.2.2.2
  have hown := X.1.2.2.2.1
  have hK := X.2.2.2.1
  have l_10 : (.fieldLink RX10 10 "CoverOrder" "text" "LCoverOrder$Text;" : Cond).before _ s = true := hts _ (List.mem_of_getElem? (i := 1) (by decide +kernel))
  have i_X10 : ∀ w ∈ u_ws RX10 TX10 13, w ∈ wsX10_wipe := k_in _ [22, 23, 24, 25, 26, 27, 28, 29, 30, 31, 32, 33, 34] (by decide +kernel)
  have hl : lv_has ls 2 [(0, .ref a_t)] := hl
  rw [mX10_wipe] at hm
  refine lv_aload_n hx hb dX10_wipe_0 rfl (lv_at hl 0 rfl) ?_
  refine va_get (D := G) (ci := 7) (v := .ref a_t_text) (C := RX10) (T := TX10) (N := 13) hx hb hts i_X10 hown hK hP 0 rfl rfl 0 (by decide) l_10 (fun _ h9 => h9) rfl dX10_wipe_1 ?_
  refine kcV0 (st1 := [.int (mX8_length k_t_text_letters_size)]) X hA (c_X8_length l G cI cZ cE a_t_text a_t_text_letters a_t_text_letters_items k_t_text_letters_size _ rfl) (cwV 0 hts gX10_wipe_X8_length rfl rfl rfl hd_X8_length ⟨Nat.le_of_ble_eq_true rfl, Nat.le_of_ble_eq_true rfl⟩) 1 5 rfl rfl hl.1 dX10_wipe_4 hP hD hS [1, 2] rfl rfl rfl [] rfl (Nat.le_of_ble_eq_true rfl) rfl ⟨Nat.zero_le _, Nat.zero_le _⟩ (fun H locs hP hD hS => ?_)
  refine lv_istore_n (lv' := [(1, .int (mX8_length k_t_text_letters_size)), (0, .ref a_t)]) hx hb dX10_wipe_7 rfl hl (by decide) rfl (fun ls hl => ?_)
  refine lv_aload_n hx hb dX10_wipe_8 rfl (lv_at hl 1 rfl) ?_
  refine va_get (D := G) (ci := 7) (v := .ref a_t_text) (C := RX10) (T := TX10) (N := 13) hx hb hts i_X10 hown hK hP 0 rfl rfl 0 (by decide) l_10 (fun _ h9 => h9) rfl dX10_wipe_9 ?_
  refine kcV (ws1 := [(a_t, .inr (7, [.ref a_t_text, .ref a_t_edges, .ref a_t_trial, .ref a_t_acts, .ref a_t_slots, .ref a_t_seen, .ref a_t_covers, .ref a_t_trialCovers, .ref a_t_walk, .ref a_t_least, .ref a_t_told, .int k_t_keptSlots, .long k_t_theSeed])), (a_t_text, .inr (5, [.ref a_t_text_letters])), (a_t_text_letters, .inr (3, [.ref a_t_text_letters_items, .int (mX8_clear k_t_text_letters_size)]))]) (st1 := []) X hA (c_X8_clear l G cI cZ cE a_t_text a_t_text_letters a_t_text_letters_items k_t_text_letters_size _ rfl) (cwV 0 hts gX10_wipe_X8_clear rfl rfl rfl hd_X8_clear ⟨Nat.le_of_ble_eq_true rfl, Nat.le_of_ble_eq_true rfl⟩) 1 5 rfl rfl hl.1 dX10_wipe_12 hP hD hS [1, 2] rfl rfl rfl rfl rfl [] rfl (Nat.le_of_ble_eq_true rfl) rfl ⟨Nat.zero_le _, Nat.zero_le _⟩ (fun H locs hP hD hS => ?_)
  refine lv_iload_n hx hb dX10_wipe_15 rfl (lv_at hl 0 rfl) ?_
  subst hm
  exact k_iret (v := (mX8_length k_t_text_letters_size)) X rfl dX10_wipe_16 hP hD hS
theorem hd_X10_wipe : yX10_wipe.cls = RX10 ∧ yX10_wipe.cls ≠ "java/lang/invoke/MethodHandle" ∧ yX10_wipe.cls ≠ "java/lang/invoke/VarHandle" ∧ (parseMethodDescriptor yX10_wipe.desc).map (fun d => d.parameters.length) = some 0 := by decide +kernel
/-! CoverOrder fault -/
set_option maxRecDepth 100000 in
set_option maxHeartbeats 4000000 in
theorem c_X10_fault (l : Launch) (G : va_G) (cI cZ cE : ClassId) (a_t a_t_text a_t_edges a_t_trial a_t_acts a_t_slots a_t_seen a_t_covers a_t_trialCovers a_t_walk a_t_least a_t_told a_t_text_letters a_t_text_letters_items : Nat) (k_t_keptSlots : Int32) (k_t_theSeed : Int64) (k_t_text_letters_size : Int32) (f_t_text_letters_items : Nat → Int32) (R : Int32) (hm : mX10_fault k_t_text_letters_size f_t_text_letters_items = some R) : kM l yX10_fault wsX10_fault { frames := 4, cells := 0, slots := 0, locals := 92 } G cI cZ cE [.ref a_t] [(a_t, .inr (7, [.ref a_t_text, .ref a_t_edges, .ref a_t_trial, .ref a_t_acts, .ref a_t_slots, .ref a_t_seen, .ref a_t_covers, .ref a_t_trialCovers, .ref a_t_walk, .ref a_t_least, .ref a_t_told, .int k_t_keptSlots, .long k_t_theSeed])), (a_t_text, .inr (5, [.ref a_t_text_letters])), (a_t_text_letters, .inr (3, [.ref a_t_text_letters_items, .int k_t_text_letters_size])), (a_t_text_letters_items, .inl (cI, 64, .inl f_t_text_letters_items))] [(a_t, .inr (7, [.ref a_t_text, .ref a_t_edges, .ref a_t_trial, .ref a_t_acts, .ref a_t_slots, .ref a_t_seen, .ref a_t_covers, .ref a_t_trialCovers, .ref a_t_walk, .ref a_t_least, .ref a_t_told, .int k_t_keptSlots, .long k_t_theSeed])), (a_t_text, .inr (5, [.ref a_t_text_letters])), (a_t_text_letters, .inr (3, [.ref a_t_text_letters_items, .int k_t_text_letters_size])), (a_t_text_letters_items, .inl (cI, 64, .inl f_t_text_letters_items))] (some (.int R)) := by
  refine kM_of cX10_fault 1 (some .int) RX10 (by decide) rfl rfl (Nat.le_of_ble_eq_true rfl) ?_
  intro p e s m below meth c A ls X hA hP hD hS hl
  have hx := X.1.1
  have hb := X.1.2.1
  have hts := X.1.2.2.2.2
  have hown := X.1.2.2.2.1
  have hK := X.2.2.2.1
  have l_10 : (.fieldLink RX10 10 "CoverOrder" "text" "LCoverOrder$Text;" : Cond).before _ s = true := hts _ (List.mem_of_getElem? (i := 1) (by decide +kernel))
  have i_X10 : ∀ w ∈ u_ws RX10 TX10 13, w ∈ wsX10_fault := k_in _ [58, 59, 60, 61, 62, 63, 64, 65, 66, 67, 68, 69, 70] (by decide +kernel)
  have hl : lv_has ls 1 [(0, .ref a_t)] := hl
  rw [mX10_fault] at hm
  refine lv_aload_n hx hb dX10_fault_0 rfl (lv_at hl 0 rfl) ?_
  refine va_get (D := G) (ci := 7) (v := .ref a_t_text) (C := RX10) (T := TX10) (N := 13) hx hb hts i_X10 hown hK hP 0 rfl rfl 0 (by decide) l_10 (fun _ h9 => h9) rfl dX10_fault_1 ?_
  obtain ⟨r4, hc4, hm⟩ := kbind hm
  refine kcV0 (st1 := [.int r4]) X hA (c_X8_firstFault l G cI cZ cE a_t_text a_t_text_letters a_t_text_letters_items k_t_text_letters_size f_t_text_letters_items r4 hc4) (cwV 0 hts gX10_fault_X8_firstFault rfl rfl rfl hd_X8_firstFault ⟨Nat.le_of_ble_eq_true rfl, Nat.le_of_ble_eq_true rfl⟩) 1 5 rfl rfl hl.1 dX10_fault_4 hP hD hS [1, 2, 3] rfl rfl rfl [] rfl (Nat.le_of_ble_eq_true rfl) rfl ⟨Nat.zero_le _, Nat.zero_le _⟩ (fun H locs hP hD hS => ?_)
  have hm := Option.some.inj hm
  subst hm
  exact k_iret (v := r4) X rfl dX10_fault_7 hP hD hS
theorem hd_X10_fault : yX10_fault.cls = RX10 ∧ yX10_fault.cls ≠ "java/lang/invoke/MethodHandle" ∧ yX10_fault.cls ≠ "java/lang/invoke/VarHandle" ∧ (parseMethodDescriptor yX10_fault.desc).map (fun d => d.parameters.length) = some 0 := by decide +kernel
/-! CoverOrder graph -/
set_option maxRecDepth 100000 in
set_option maxHeartbeats 4000000 in
theorem c_X10_graph (l : Launch) (G : va_G) (cI cZ cE : ClassId) (a_t a_t_text a_t_edges a_t_trial a_t_acts a_t_slots a_t_seen a_t_covers a_t_trialCovers a_t_walk a_t_least a_t_told a_t_text_letters a_t_text_letters_items a_t_edges_row a_t_edges_row_items a_t_acts_deleted a_t_acts_places a_t_acts_deleted_items a_t_acts_places_items : Nat) (k_t_keptSlots : Int32) (k_t_theSeed : Int64) (k_t_text_letters_size : Int32) (f_t_text_letters_items : Nat → Int32) (k_t_edges_knots : Int32) (k_t_edges_nextStamp : Int32) (k_t_edges_row_size : Int32) (f_t_edges_row_items : Nat → Int32) (k_t_acts_deleted_size : Int32) (k_t_acts_places_size : Int32) (R : Int32 × Int32 × Int32 × Int32 × Int32 × (Nat → Int32) × Int32 × Int32) (hm : mX10_graph k_t_keptSlots k_t_text_letters_size f_t_text_letters_items k_t_edges_knots k_t_edges_nextStamp k_t_edges_row_size f_t_edges_row_items k_t_acts_deleted_size k_t_acts_places_size = some R) : kM l yX10_graph wsX10_graph { frames := 5, cells := 0, slots := 0, locals := 109 } G cI cZ cE [.ref a_t] [(a_t, .inr (7, [.ref a_t_text, .ref a_t_edges, .ref a_t_trial, .ref a_t_acts, .ref a_t_slots, .ref a_t_seen, .ref a_t_covers, .ref a_t_trialCovers, .ref a_t_walk, .ref a_t_least, .ref a_t_told, .int k_t_keptSlots, .long k_t_theSeed])), (a_t_text, .inr (5, [.ref a_t_text_letters])), (a_t_text_letters, .inr (3, [.ref a_t_text_letters_items, .int k_t_text_letters_size])), (a_t_text_letters_items, .inl (cI, 64, .inl f_t_text_letters_items)), (a_t_edges, .inr (2, [.ref a_t_edges_row, .int k_t_edges_knots, .int k_t_edges_nextStamp])), (a_t_edges_row, .inr (3, [.ref a_t_edges_row_items, .int k_t_edges_row_size])), (a_t_edges_row_items, .inl (cI, 24, .inl f_t_edges_row_items)), (a_t_acts, .inr (0, [.ref a_t_acts_deleted, .ref a_t_acts_places])), (a_t_acts_deleted, .inr (3, [.ref a_t_acts_deleted_items, .int k_t_acts_deleted_size])), (a_t_acts_places, .inr (3, [.ref a_t_acts_places_items, .int k_t_acts_places_size]))] [(a_t, .inr (7, [.ref a_t_text, .ref a_t_edges, .ref a_t_trial, .ref a_t_acts, .ref a_t_slots, .ref a_t_seen, .ref a_t_covers, .ref a_t_trialCovers, .ref a_t_walk, .ref a_t_least, .ref a_t_told, .int R.2.1, .long k_t_theSeed])), (a_t_text, .inr (5, [.ref a_t_text_letters])), (a_t_text_letters, .inr (3, [.ref a_t_text_letters_items, .int k_t_text_letters_size])), (a_t_text_letters_items, .inl (cI, 64, .inl f_t_text_letters_items)), (a_t_edges, .inr (2, [.ref a_t_edges_row, .int R.2.2.1, .int R.2.2.2.1])), (a_t_edges_row, .inr (3, [.ref a_t_edges_row_items, .int R.2.2.2.2.1])), (a_t_edges_row_items, .inl (cI, 24, .inl R.2.2.2.2.2.1)), (a_t_acts, .inr (0, [.ref a_t_acts_deleted, .ref a_t_acts_places])), (a_t_acts_deleted, .inr (3, [.ref a_t_acts_deleted_items, .int R.2.2.2.2.2.2.1])), (a_t_acts_places, .inr (3, [.ref a_t_acts_places_items, .int R.2.2.2.2.2.2.2]))] (some (.int R.1)) := by
  refine kM_of cX10_graph 1 (some .int) RX10 (by decide) rfl rfl (Nat.le_of_ble_eq_true rfl) ?_
  intro p e s m below meth c A ls X hA hP hD hS hl
  have hx := X.1.1
  have hb := X.1.2.1
  have hts := X.1.2.2.2.2
  have hown := X.1.2.2.2.1
  have hK := X.2.2.2.1
  have l_10 : (.fieldLink RX10 10 "CoverOrder" "text" "LCoverOrder$Text;" : Cond).before _ s = true := hts _ (List.mem_of_getElem? (i := 1) (by decide +kernel))
  have i_X10 : ∀ w ∈ u_ws RX10 TX10 13, w ∈ wsX10_graph := k_in _ [116, 117, 118, 119, 120, 121, 122, 123, 124, 125, 126, 127, 128] (by decide +kernel)
  have l_19 : (.fieldLink RX10 19 "CoverOrder" "edges" "LCoverOrder$Edges;" : Cond).before _ s = true := hts _ (List.mem_of_getElem? (i := 2) (by decide +kernel))
  have l_29 : (.fieldLink RX10 29 "CoverOrder" "acts" "LCoverOrder$Acts;" : Cond).before _ s = true := hts _ (List.mem_of_getElem? (i := 3) (by decide +kernel))
  have l_95 : (.fieldLink RX10 95 "CoverOrder" "keptSlots" "I" : Cond).before _ s = true := hts _ (List.mem_of_getElem? (i := 4) (by decide +kernel))
  have hl : lv_has ls 1 [(0, .ref a_t)] := hl
  rw [mX10_graph] at hm
  refine lv_aload_n hx hb dX10_graph_0 rfl (lv_at hl 0 rfl) ?_
  refine va_get (D := G) (ci := 7) (v := .ref a_t_text) (C := RX10) (T := TX10) (N := 13) hx hb hts i_X10 hown hK hP 0 rfl rfl 0 (by decide) l_10 (fun _ h9 => h9) rfl dX10_graph_1 ?_
  obtain ⟨r4, hc4, hm⟩ := kbind hm
  refine kcV0 (st1 := [.int r4]) X hA (c_X8_firstFault l G cI cZ cE a_t_text a_t_text_letters a_t_text_letters_items k_t_text_letters_size f_t_text_letters_items r4 hc4) (cwV 0 hts gX10_graph_X8_firstFault rfl rfl rfl hd_X8_firstFault ⟨Nat.le_of_ble_eq_true rfl, Nat.le_of_ble_eq_true rfl⟩) 1 5 rfl rfl hl.1 dX10_graph_4 hP hD hS [1, 2, 3] rfl rfl rfl [] rfl (Nat.le_of_ble_eq_true rfl) rfl ⟨Nat.zero_le _, Nat.zero_le _⟩ (fun H locs hP hD hS => ?_)
  refine lv_bipush (v := (-9)) hx hb dX10_graph_7 (by decide) ?_
  refine lv_icmp_eq (tgt := 15) hx hb dX10_graph_9 (by decide) (fun c9 => ?_) (fun c9 => ?_)
  · rw [if_pos c9] at hm
    refine lv_aload_n hx hb dX10_graph_15 rfl (lv_at hl 0 rfl) ?_
    refine va_get (D := G) (ci := 7) (v := .ref a_t_text) (C := RX10) (T := TX10) (N := 13) hx hb hts i_X10 hown hK hP 0 rfl rfl 0 (by decide) l_10 (fun _ h9 => h9) rfl dX10_graph_16 ?_
    refine lv_aload_n hx hb dX10_graph_19 rfl (lv_at hl 0 rfl) ?_
    refine va_get (D := G) (ci := 7) (v := .ref a_t_edges) (C := RX10) (T := TX10) (N := 13) hx hb hts i_X10 hown hK hP 0 rfl rfl 1 (by decide) l_19 (fun _ h9 => h9) rfl dX10_graph_20 ?_
    obtain ⟨r23, hc23, hm⟩ := kbind hm
    refine kcV (ws1 := [(a_t, .inr (7, [.ref a_t_text, .ref a_t_edges, .ref a_t_trial, .ref a_t_acts, .ref a_t_slots, .ref a_t_seen, .ref a_t_covers, .ref a_t_trialCovers, .ref a_t_walk, .ref a_t_least, .ref a_t_told, .int k_t_keptSlots, .long k_t_theSeed])), (a_t_text, .inr (5, [.ref a_t_text_letters])), (a_t_text_letters, .inr (3, [.ref a_t_text_letters_items, .int k_t_text_letters_size])), (a_t_text_letters_items, .inl (cI, 64, .inl f_t_text_letters_items)), (a_t_edges, .inr (2, [.ref a_t_edges_row, .int r23.1, .int r23.2.1])), (a_t_edges_row, .inr (3, [.ref a_t_edges_row_items, .int r23.2.2.1])), (a_t_edges_row_items, .inl (cI, 24, .inl r23.2.2.2)), (a_t_acts, .inr (0, [.ref a_t_acts_deleted, .ref a_t_acts_places])), (a_t_acts_deleted, .inr (3, [.ref a_t_acts_deleted_items, .int k_t_acts_deleted_size])), (a_t_acts_places, .inr (3, [.ref a_t_acts_places_items, .int k_t_acts_places_size]))]) (st1 := []) X hA (c_X8_readInto l G cI cZ cE a_t_text a_t_text_letters a_t_text_letters_items a_t_edges a_t_edges_row a_t_edges_row_items k_t_text_letters_size f_t_text_letters_items k_t_edges_knots k_t_edges_nextStamp k_t_edges_row_size f_t_edges_row_items r23 hc23) (cwV 1 hts gX10_graph_X8_readInto rfl rfl rfl hd_X8_readInto ⟨Nat.le_of_ble_eq_true rfl, Nat.le_of_ble_eq_true rfl⟩) 1 5 rfl rfl hl.1 dX10_graph_23 hP hD hS [1, 2, 3, 4, 5, 6] rfl rfl rfl rfl rfl [] rfl (Nat.le_of_ble_eq_true rfl) rfl ⟨Nat.zero_le _, Nat.zero_le _⟩ (fun H locs hP hD hS => ?_)
    refine lv_aload_n hx hb dX10_graph_26 rfl (lv_at hl 0 rfl) ?_
    refine va_get (D := G) (ci := 7) (v := .ref a_t_acts) (C := RX10) (T := TX10) (N := 13) hx hb hts i_X10 hown hK hP 0 rfl rfl 3 (by decide) l_29 (fun _ h9 => h9) rfl dX10_graph_27 ?_
    refine kcV (ws1 := [(a_t, .inr (7, [.ref a_t_text, .ref a_t_edges, .ref a_t_trial, .ref a_t_acts, .ref a_t_slots, .ref a_t_seen, .ref a_t_covers, .ref a_t_trialCovers, .ref a_t_walk, .ref a_t_least, .ref a_t_told, .int k_t_keptSlots, .long k_t_theSeed])), (a_t_text, .inr (5, [.ref a_t_text_letters])), (a_t_text_letters, .inr (3, [.ref a_t_text_letters_items, .int k_t_text_letters_size])), (a_t_text_letters_items, .inl (cI, 64, .inl f_t_text_letters_items)), (a_t_edges, .inr (2, [.ref a_t_edges_row, .int r23.1, .int r23.2.1])), (a_t_edges_row, .inr (3, [.ref a_t_edges_row_items, .int r23.2.2.1])), (a_t_edges_row_items, .inl (cI, 24, .inl r23.2.2.2)), (a_t_acts, .inr (0, [.ref a_t_acts_deleted, .ref a_t_acts_places])), (a_t_acts_deleted, .inr (3, [.ref a_t_acts_deleted_items, .int ((mX0_clear k_t_acts_deleted_size k_t_acts_places_size).1)])), (a_t_acts_places, .inr (3, [.ref a_t_acts_places_items, .int ((mX0_clear k_t_acts_deleted_size k_t_acts_places_size).2)]))]) (st1 := []) X hA (c_X0_clear l G cI cZ cE a_t_acts a_t_acts_deleted a_t_acts_places a_t_acts_deleted_items a_t_acts_places_items k_t_acts_deleted_size k_t_acts_places_size (mX0_clear k_t_acts_deleted_size k_t_acts_places_size) rfl) (cwV 0 hts gX10_graph_X0_clear rfl rfl rfl hd_X0_clear ⟨Nat.le_of_ble_eq_true rfl, Nat.le_of_ble_eq_true rfl⟩) 7 0 rfl rfl hl.1 dX10_graph_30 hP hD hS [7, 8, 9] rfl rfl rfl rfl rfl [] rfl (Nat.le_of_ble_eq_true rfl) rfl ⟨Nat.zero_le _, Nat.zero_le _⟩ (fun H locs hP hD hS => ?_)
    refine lv_aload_n hx hb dX10_graph_33 rfl (lv_at hl 0 rfl) ?_
    refine lv_iconst (v := 0) hx hb dX10_graph_34 (by decide) ?_
    refine va_put (D := G) (ci := 7) (v := .int 0) (ty := .int) (C := RX10) (T := TX10) (N := 13) hx hb hts i_X10 tyX10 tyX10_ok nmX10 hown hK hP hD hS 0 rfl rfl 11 (by decide) l_95 (fun _ h9 => h9) rfl (by decide +kernel) rfl rfl (Nat.le_of_ble_eq_true rfl) dX10_graph_35 (fun H locs hP hD hS => ?_)
    have hP : va_P G vwCl [(a_t, .inr (7, [.ref a_t_text, .ref a_t_edges, .ref a_t_trial, .ref a_t_acts, .ref a_t_slots, .ref a_t_seen, .ref a_t_covers, .ref a_t_trialCovers, .ref a_t_walk, .ref a_t_least, .ref a_t_told, .int 0, .long k_t_theSeed])), (a_t_text, .inr (5, [.ref a_t_text_letters])), (a_t_text_letters, .inr (3, [.ref a_t_text_letters_items, .int k_t_text_letters_size])), (a_t_text_letters_items, .inl (cI, 64, .inl f_t_text_letters_items)), (a_t_edges, .inr (2, [.ref a_t_edges_row, .int r23.1, .int r23.2.1])), (a_t_edges_row, .inr (3, [.ref a_t_edges_row_items, .int r23.2.2.1])), (a_t_edges_row_items, .inl (cI, 24, .inl r23.2.2.2)), (a_t_acts, .inr (0, [.ref a_t_acts_deleted, .ref a_t_acts_places])), (a_t_acts_deleted, .inr (3, [.ref a_t_acts_deleted_items, .int ((mX0_clear k_t_acts_deleted_size k_t_acts_places_size).1)])), (a_t_acts_places, .inr (3, [.ref a_t_acts_places_items, .int ((mX0_clear k_t_acts_deleted_size k_t_acts_places_size).2)]))] H := hP
    have hD : va_D A [(a_t, .inr (7, [.ref a_t_text, .ref a_t_edges, .ref a_t_trial, .ref a_t_acts, .ref a_t_slots, .ref a_t_seen, .ref a_t_covers, .ref a_t_trialCovers, .ref a_t_walk, .ref a_t_least, .ref a_t_told, .int 0, .long k_t_theSeed])), (a_t_text, .inr (5, [.ref a_t_text_letters])), (a_t_text_letters, .inr (3, [.ref a_t_text_letters_items, .int k_t_text_letters_size])), (a_t_text_letters_items, .inl (cI, 64, .inl f_t_text_letters_items)), (a_t_edges, .inr (2, [.ref a_t_edges_row, .int r23.1, .int r23.2.1])), (a_t_edges_row, .inr (3, [.ref a_t_edges_row_items, .int r23.2.2.1])), (a_t_edges_row_items, .inl (cI, 24, .inl r23.2.2.2)), (a_t_acts, .inr (0, [.ref a_t_acts_deleted, .ref a_t_acts_places])), (a_t_acts_deleted, .inr (3, [.ref a_t_acts_deleted_items, .int ((mX0_clear k_t_acts_deleted_size k_t_acts_places_size).1)])), (a_t_acts_places, .inr (3, [.ref a_t_acts_places_items, .int ((mX0_clear k_t_acts_deleted_size k_t_acts_places_size).2)]))] := hD
    refine lv_aload_n hx hb dX10_graph_38 rfl (lv_at hl 0 rfl) ?_
    refine va_get (D := G) (ci := 7) (v := .ref a_t_edges) (C := RX10) (T := TX10) (N := 13) hx hb hts i_X10 hown hK hP 0 rfl rfl 1 (by decide) l_19 (fun _ h9 => h9) rfl dX10_graph_39 ?_
    refine kcV0 (st1 := [.int (mX3_size r23.2.2.1)]) X hA (c_X3_size l G cI cZ cE a_t_edges a_t_edges_row a_t_edges_row_items r23.1 r23.2.1 r23.2.2.1 _ rfl) (cwV 0 hts gX10_graph_X3_size rfl rfl rfl hd_X3_size ⟨Nat.le_of_ble_eq_true rfl, Nat.le_of_ble_eq_true rfl⟩) 4 2 rfl rfl hl.1 dX10_graph_42 hP hD hS [4, 5] rfl rfl rfl [] rfl (Nat.le_of_ble_eq_true rfl) rfl ⟨Nat.zero_le _, Nat.zero_le _⟩ (fun H locs hP hD hS => ?_)
    have hm := Option.some.inj hm
    subst hm
    exact k_iret (v := (mX3_size r23.2.2.1)) X rfl dX10_graph_45 hP hD hS
  · rw [if_neg c9] at hm
    refine lv_bipush (v := (-3)) hx hb dX10_graph_12 (by decide) ?_
    have hm := Option.some.inj hm
    subst hm
    exact k_iret (v := (-3)) X rfl dX10_graph_14 hP hD hS
theorem hd_X10_graph : yX10_graph.cls = RX10 ∧ yX10_graph.cls ≠ "java/lang/invoke/MethodHandle" ∧ yX10_graph.cls ≠ "java/lang/invoke/VarHandle" ∧ (parseMethodDescriptor yX10_graph.desc).map (fun d => d.parameters.length) = some 0 := by decide +kernel
/-! CoverOrder insert -/
set_option maxRecDepth 100000 in
set_option maxHeartbeats 4000000 in
theorem c_X10_insert (l : Launch) (G : va_G) (cI cZ cE : ClassId) (a_t a_t_text a_t_edges a_t_trial a_t_acts a_t_slots a_t_seen a_t_covers a_t_trialCovers a_t_walk a_t_least a_t_told a_t_edges_row a_t_edges_row_items a_t_acts_deleted a_t_acts_places a_t_acts_deleted_items a_t_acts_places_items : Nat) (k_t_keptSlots : Int32) (k_t_theSeed : Int64) (k_t_edges_knots : Int32) (k_t_edges_nextStamp : Int32) (k_t_edges_row_size : Int32) (f_t_edges_row_items : Nat → Int32) (k_t_acts_deleted_size : Int32) (f_t_acts_deleted_items : Nat → Int32) (k_t_acts_places_size : Int32) (f_t_acts_places_items : Nat → Int32) (p1 : Int32) (p2 : Int32) (R : Int32 × Int32 × Int32 × (Nat → Int32) × Int32 × (Nat → Int32) × Int32 × (Nat → Int32)) (hm : mX10_insert k_t_edges_knots k_t_edges_nextStamp k_t_edges_row_size f_t_edges_row_items k_t_acts_deleted_size f_t_acts_deleted_items k_t_acts_places_size f_t_acts_places_items p1 p2 = some R) : kM l yX10_insert wsX10_insert { frames := 5, cells := 0, slots := 0, locals := 106 } G cI cZ cE [.ref a_t, .int p1, .int p2] [(a_t, .inr (7, [.ref a_t_text, .ref a_t_edges, .ref a_t_trial, .ref a_t_acts, .ref a_t_slots, .ref a_t_seen, .ref a_t_covers, .ref a_t_trialCovers, .ref a_t_walk, .ref a_t_least, .ref a_t_told, .int k_t_keptSlots, .long k_t_theSeed])), (a_t_edges, .inr (2, [.ref a_t_edges_row, .int k_t_edges_knots, .int k_t_edges_nextStamp])), (a_t_edges_row, .inr (3, [.ref a_t_edges_row_items, .int k_t_edges_row_size])), (a_t_edges_row_items, .inl (cI, 24, .inl f_t_edges_row_items)), (a_t_acts, .inr (0, [.ref a_t_acts_deleted, .ref a_t_acts_places])), (a_t_acts_deleted, .inr (3, [.ref a_t_acts_deleted_items, .int k_t_acts_deleted_size])), (a_t_acts_deleted_items, .inl (cI, 14, .inl f_t_acts_deleted_items)), (a_t_acts_places, .inr (3, [.ref a_t_acts_places_items, .int k_t_acts_places_size])), (a_t_acts_places_items, .inl (cI, 14, .inl f_t_acts_places_items))] [(a_t, .inr (7, [.ref a_t_text, .ref a_t_edges, .ref a_t_trial, .ref a_t_acts, .ref a_t_slots, .ref a_t_seen, .ref a_t_covers, .ref a_t_trialCovers, .ref a_t_walk, .ref a_t_least, .ref a_t_told, .int k_t_keptSlots, .long k_t_theSeed])), (a_t_edges, .inr (2, [.ref a_t_edges_row, .int k_t_edges_knots, .int R.2.1])), (a_t_edges_row, .inr (3, [.ref a_t_edges_row_items, .int R.2.2.1])), (a_t_edges_row_items, .inl (cI, 24, .inl R.2.2.2.1)), (a_t_acts, .inr (0, [.ref a_t_acts_deleted, .ref a_t_acts_places])), (a_t_acts_deleted, .inr (3, [.ref a_t_acts_deleted_items, .int R.2.2.2.2.1])), (a_t_acts_deleted_items, .inl (cI, 14, .inl R.2.2.2.2.2.1)), (a_t_acts_places, .inr (3, [.ref a_t_acts_places_items, .int R.2.2.2.2.2.2.1])), (a_t_acts_places_items, .inl (cI, 14, .inl R.2.2.2.2.2.2.2))] (some (.int R.1)) := by
  refine kM_of cX10_insert 4 (some .int) RX10 (by decide) rfl rfl (Nat.le_of_ble_eq_true rfl) ?_
  intro p e s m below meth c A ls X hA hP hD hS hl
  have hx := X.1.1
  have hb := X.1.2.1
  have hts := X.1.2.2.2.2
  have hown := X.1.2.2.2.1
  have hK := X.2.2.2.1
  have l_19 : (.fieldLink RX10 19 "CoverOrder" "edges" "LCoverOrder$Edges;" : Cond).before _ s = true := hts _ (List.mem_of_getElem? (i := 1) (by decide +kernel))
  have i_X10 : ∀ w ∈ u_ws RX10 TX10 13, w ∈ wsX10_insert := k_in _ [78, 79, 80, 81, 82, 83, 84, 85, 86, 87, 88, 89, 90] (by decide +kernel)
  have l_29 : (.fieldLink RX10 29 "CoverOrder" "acts" "LCoverOrder$Acts;" : Cond).before _ s = true := hts _ (List.mem_of_getElem? (i := 2) (by decide +kernel))
  have hl : lv_has ls 4 [(0, .ref a_t), (1, .int p1), (2, .int p2)] := hl
  rw [mX10_insert] at hm
  refine lv_aload_n hx hb dX10_insert_0 rfl (lv_at hl 0 rfl) ?_
  refine va_get (D := G) (ci := 7) (v := .ref a_t_edges) (C := RX10) (T := TX10) (N := 13) hx hb hts i_X10 hown hK hP 0 rfl rfl 1 (by decide) l_19 (fun _ h9 => h9) rfl dX10_insert_1 ?_
  refine lv_iload_n hx hb dX10_insert_4 rfl (lv_at hl 1 rfl) ?_
  refine lv_iload_n hx hb dX10_insert_5 rfl (lv_at hl 2 rfl) ?_
  refine kcV0 (st1 := [.int (bI (mX3_areKnots k_t_edges_knots p1 p2))]) X hA (c_X3_areKnots l G cI cZ cE a_t_edges a_t_edges_row k_t_edges_knots k_t_edges_nextStamp p1 p2 _ rfl) (cwV 2 hts gX10_insert_X3_areKnots rfl rfl rfl hd_X3_areKnots ⟨Nat.le_of_ble_eq_true rfl, Nat.le_of_ble_eq_true rfl⟩) 1 2 rfl rfl hl.1 dX10_insert_6 hP hD hS [1] rfl rfl rfl [] rfl (Nat.le_of_ble_eq_true rfl) rfl ⟨Nat.zero_le _, Nat.zero_le _⟩ (fun H locs hP hD hS => ?_)
  refine lv_if_ne (tgt := 14) hx hb dX10_insert_9 (by decide) (fun c9 => ?_) (fun c9 => ?_)
  · have c9 := kb1 c9
    rw [if_pos c9] at hm
    refine lv_iload_n hx hb dX10_insert_14 rfl (lv_at hl 1 rfl) ?_
    refine lv_iload_n hx hb dX10_insert_15 rfl (lv_at hl 2 rfl) ?_
    refine lv_icmp_ne (tgt := 22) hx hb dX10_insert_16 (by decide) (fun c16 => ?_) (fun c16 => ?_)
    · rw [if_neg c16] at hm
      refine lv_aload_n hx hb dX10_insert_22 rfl (lv_at hl 0 rfl) ?_
      refine va_get (D := G) (ci := 7) (v := .ref a_t_edges) (C := RX10) (T := TX10) (N := 13) hx hb hts i_X10 hown hK hP 0 rfl rfl 1 (by decide) l_19 (fun _ h9 => h9) rfl dX10_insert_23 ?_
      refine lv_iload_n hx hb dX10_insert_26 rfl (lv_at hl 1 rfl) ?_
      refine lv_iload_n hx hb dX10_insert_27 rfl (lv_at hl 2 rfl) ?_
      obtain ⟨r28, hc28, hm⟩ := kbind hm
      refine kcV0 (st1 := [.int (bI r28)]) X hA (c_X3_has l G cI cZ cE a_t_edges a_t_edges_row a_t_edges_row_items k_t_edges_knots k_t_edges_nextStamp k_t_edges_row_size f_t_edges_row_items p1 p2 r28 hc28) (cwV 2 hts gX10_insert_X3_has rfl rfl rfl hd_X3_has ⟨Nat.le_of_ble_eq_true rfl, Nat.le_of_ble_eq_true rfl⟩) 1 2 rfl rfl hl.1 dX10_insert_28 hP hD hS [1, 2, 3] rfl rfl rfl [] rfl (Nat.le_of_ble_eq_true rfl) rfl ⟨Nat.zero_le _, Nat.zero_le _⟩ (fun H locs hP hD hS => ?_)
      refine lv_if_eq (tgt := 37) hx hb dX10_insert_31 (by decide) (fun c31 => ?_) (fun c31 => ?_)
      · have c31 := kb0 c31
        rw [if_neg c31] at hm
        refine lv_aload_n hx hb dX10_insert_37 rfl (lv_at hl 0 rfl) ?_
        refine va_get (D := G) (ci := 7) (v := .ref a_t_edges) (C := RX10) (T := TX10) (N := 13) hx hb hts i_X10 hown hK hP 0 rfl rfl 1 (by decide) l_19 (fun _ h9 => h9) rfl dX10_insert_38 ?_
        refine kcV0 (st1 := [.int (bI (mX3_isFull k_t_edges_row_size))]) X hA (c_X3_isFull l G cI cZ cE a_t_edges a_t_edges_row a_t_edges_row_items k_t_edges_knots k_t_edges_nextStamp k_t_edges_row_size f_t_edges_row_items _ rfl) (cwV 0 hts gX10_insert_X3_isFull rfl rfl rfl hd_X3_isFull ⟨Nat.le_of_ble_eq_true rfl, Nat.le_of_ble_eq_true rfl⟩) 1 2 rfl rfl hl.1 dX10_insert_41 hP hD hS [1, 2, 3] rfl rfl rfl [] rfl (Nat.le_of_ble_eq_true rfl) rfl ⟨Nat.zero_le _, Nat.zero_le _⟩ (fun H locs hP hD hS => ?_)
        refine lv_if_eq (tgt := 50) hx hb dX10_insert_44 (by decide) (fun c44 => ?_) (fun c44 => ?_)
        · have c44 := kb0 c44
          rw [if_neg c44] at hm
          refine lv_aload_n hx hb dX10_insert_50 rfl (lv_at hl 0 rfl) ?_
          refine va_get (D := G) (ci := 7) (v := .ref a_t_edges) (C := RX10) (T := TX10) (N := 13) hx hb hts i_X10 hown hK hP 0 rfl rfl 1 (by decide) l_19 (fun _ h9 => h9) rfl dX10_insert_51 ?_
          refine lv_iload_n hx hb dX10_insert_54 rfl (lv_at hl 1 rfl) ?_
          refine lv_iload_n hx hb dX10_insert_55 rfl (lv_at hl 2 rfl) ?_
          obtain ⟨r56, hc56, hm⟩ := kbind hm
          refine kcV (ws1 := [(a_t, .inr (7, [.ref a_t_text, .ref a_t_edges, .ref a_t_trial, .ref a_t_acts, .ref a_t_slots, .ref a_t_seen, .ref a_t_covers, .ref a_t_trialCovers, .ref a_t_walk, .ref a_t_least, .ref a_t_told, .int k_t_keptSlots, .long k_t_theSeed])), (a_t_edges, .inr (2, [.ref a_t_edges_row, .int k_t_edges_knots, .int r56.2.1])), (a_t_edges_row, .inr (3, [.ref a_t_edges_row_items, .int r56.2.2.1])), (a_t_edges_row_items, .inl (cI, 24, .inl r56.2.2.2)), (a_t_acts, .inr (0, [.ref a_t_acts_deleted, .ref a_t_acts_places])), (a_t_acts_deleted, .inr (3, [.ref a_t_acts_deleted_items, .int k_t_acts_deleted_size])), (a_t_acts_deleted_items, .inl (cI, 14, .inl f_t_acts_deleted_items)), (a_t_acts_places, .inr (3, [.ref a_t_acts_places_items, .int k_t_acts_places_size])), (a_t_acts_places_items, .inl (cI, 14, .inl f_t_acts_places_items))]) (st1 := [.int r56.1]) X hA (c_X3_append l G cI cZ cE a_t_edges a_t_edges_row a_t_edges_row_items k_t_edges_knots k_t_edges_nextStamp k_t_edges_row_size f_t_edges_row_items p1 p2 r56 hc56) (cwV 2 hts gX10_insert_X3_append rfl rfl rfl hd_X3_append ⟨Nat.le_of_ble_eq_true rfl, Nat.le_of_ble_eq_true rfl⟩) 1 2 rfl rfl hl.1 dX10_insert_56 hP hD hS [1, 2, 3] rfl rfl rfl rfl rfl [] rfl (Nat.le_of_ble_eq_true rfl) rfl ⟨Nat.zero_le _, Nat.zero_le _⟩ (fun H locs hP hD hS => ?_)
          refine lv_istore_n (lv' := [(3, .int r56.1), (0, .ref a_t), (1, .int p1), (2, .int p2)]) hx hb dX10_insert_59 rfl hl (by decide) rfl (fun ls hl => ?_)
          refine lv_aload_n hx hb dX10_insert_60 rfl (lv_at hl 1 rfl) ?_
          refine va_get (D := G) (ci := 7) (v := .ref a_t_acts) (C := RX10) (T := TX10) (N := 13) hx hb hts i_X10 hown hK hP 0 rfl rfl 3 (by decide) l_29 (fun _ h9 => h9) rfl dX10_insert_61 ?_
          obtain ⟨r64, hc64, hm⟩ := kbind hm
          refine kcV (ws1 := [(a_t, .inr (7, [.ref a_t_text, .ref a_t_edges, .ref a_t_trial, .ref a_t_acts, .ref a_t_slots, .ref a_t_seen, .ref a_t_covers, .ref a_t_trialCovers, .ref a_t_walk, .ref a_t_least, .ref a_t_told, .int k_t_keptSlots, .long k_t_theSeed])), (a_t_edges, .inr (2, [.ref a_t_edges_row, .int k_t_edges_knots, .int r56.2.1])), (a_t_edges_row, .inr (3, [.ref a_t_edges_row_items, .int r56.2.2.1])), (a_t_edges_row_items, .inl (cI, 24, .inl r56.2.2.2)), (a_t_acts, .inr (0, [.ref a_t_acts_deleted, .ref a_t_acts_places])), (a_t_acts_deleted, .inr (3, [.ref a_t_acts_deleted_items, .int r64.1])), (a_t_acts_deleted_items, .inl (cI, 14, .inl r64.2.1)), (a_t_acts_places, .inr (3, [.ref a_t_acts_places_items, .int r64.2.2.1])), (a_t_acts_places_items, .inl (cI, 14, .inl r64.2.2.2))]) (st1 := []) X hA (c_X0_addInserted l G cI cZ cE a_t_acts a_t_acts_deleted a_t_acts_places a_t_acts_deleted_items a_t_acts_places_items k_t_acts_deleted_size f_t_acts_deleted_items k_t_acts_places_size f_t_acts_places_items r64 hc64) (cwV 0 hts gX10_insert_X0_addInserted rfl rfl rfl hd_X0_addInserted ⟨Nat.le_of_ble_eq_true rfl, Nat.le_of_ble_eq_true rfl⟩) 4 0 rfl rfl hl.1 dX10_insert_64 hP hD hS [4, 5, 6, 7, 8] rfl rfl rfl rfl rfl [] rfl (Nat.le_of_ble_eq_true rfl) rfl ⟨Nat.zero_le _, Nat.zero_le _⟩ (fun H locs hP hD hS => ?_)
          refine lv_iload_n hx hb dX10_insert_67 rfl (lv_at hl 0 rfl) ?_
          have hm := Option.some.inj hm
          subst hm
          exact k_iret (v := r56.1) X rfl dX10_insert_68 hP hD hS
        · have c44 := kb1 c44
          rw [if_pos c44] at hm
          refine lv_bipush (v := (-4)) hx hb dX10_insert_47 (by decide) ?_
          have hm := Option.some.inj hm
          subst hm
          exact k_iret (v := (-4)) X rfl dX10_insert_49 hP hD hS
      · have c31 := kb1 c31
        rw [if_pos c31] at hm
        refine lv_bipush (v := (-3)) hx hb dX10_insert_34 (by decide) ?_
        have hm := Option.some.inj hm
        subst hm
        exact k_iret (v := (-3)) X rfl dX10_insert_36 hP hD hS
    · rw [if_pos c16] at hm
      refine lv_bipush (v := (-2)) hx hb dX10_insert_19 (by decide) ?_
      have hm := Option.some.inj hm
      subst hm
      exact k_iret (v := (-2)) X rfl dX10_insert_21 hP hD hS
  · have c9 := kb0 c9
    rw [if_neg c9] at hm
    refine lv_iconst (v := (-1)) hx hb dX10_insert_12 (by decide) ?_
    have hm := Option.some.inj hm
    subst hm
    exact k_iret (v := (-1)) X rfl dX10_insert_13 hP hD hS
theorem hd_X10_insert : yX10_insert.cls = RX10 ∧ yX10_insert.cls ≠ "java/lang/invoke/MethodHandle" ∧ yX10_insert.cls ≠ "java/lang/invoke/VarHandle" ∧ (parseMethodDescriptor yX10_insert.desc).map (fun d => d.parameters.length) = some 2 := by decide +kernel
/-! CoverOrder delete -/
set_option maxRecDepth 100000 in
set_option maxHeartbeats 4000000 in
theorem c_X10_delete (l : Launch) (G : va_G) (cI cZ cE : ClassId) (a_t a_t_text a_t_edges a_t_trial a_t_acts a_t_slots a_t_seen a_t_covers a_t_trialCovers a_t_walk a_t_least a_t_told a_t_edges_row a_t_edges_row_items a_t_acts_deleted a_t_acts_places a_t_acts_deleted_items a_t_acts_places_items : Nat) (k_t_keptSlots : Int32) (k_t_theSeed : Int64) (k_t_edges_knots : Int32) (k_t_edges_nextStamp : Int32) (k_t_edges_row_size : Int32) (f_t_edges_row_items : Nat → Int32) (k_t_acts_deleted_size : Int32) (f_t_acts_deleted_items : Nat → Int32) (k_t_acts_places_size : Int32) (f_t_acts_places_items : Nat → Int32) (p1 : Int32) (p2 : Int32) (R : Int32 × Int32 × (Nat → Int32) × Int32 × (Nat → Int32) × Int32 × (Nat → Int32)) (hm : mX10_delete k_t_edges_knots k_t_edges_row_size f_t_edges_row_items k_t_acts_deleted_size f_t_acts_deleted_items k_t_acts_places_size f_t_acts_places_items p1 p2 = some R) : kM l yX10_delete wsX10_delete { frames := 4, cells := 0, slots := 0, locals := 86 } G cI cZ cE [.ref a_t, .int p1, .int p2] [(a_t, .inr (7, [.ref a_t_text, .ref a_t_edges, .ref a_t_trial, .ref a_t_acts, .ref a_t_slots, .ref a_t_seen, .ref a_t_covers, .ref a_t_trialCovers, .ref a_t_walk, .ref a_t_least, .ref a_t_told, .int k_t_keptSlots, .long k_t_theSeed])), (a_t_edges, .inr (2, [.ref a_t_edges_row, .int k_t_edges_knots, .int k_t_edges_nextStamp])), (a_t_edges_row, .inr (3, [.ref a_t_edges_row_items, .int k_t_edges_row_size])), (a_t_edges_row_items, .inl (cI, 24, .inl f_t_edges_row_items)), (a_t_acts, .inr (0, [.ref a_t_acts_deleted, .ref a_t_acts_places])), (a_t_acts_deleted, .inr (3, [.ref a_t_acts_deleted_items, .int k_t_acts_deleted_size])), (a_t_acts_deleted_items, .inl (cI, 14, .inl f_t_acts_deleted_items)), (a_t_acts_places, .inr (3, [.ref a_t_acts_places_items, .int k_t_acts_places_size])), (a_t_acts_places_items, .inl (cI, 14, .inl f_t_acts_places_items))] [(a_t, .inr (7, [.ref a_t_text, .ref a_t_edges, .ref a_t_trial, .ref a_t_acts, .ref a_t_slots, .ref a_t_seen, .ref a_t_covers, .ref a_t_trialCovers, .ref a_t_walk, .ref a_t_least, .ref a_t_told, .int k_t_keptSlots, .long k_t_theSeed])), (a_t_edges, .inr (2, [.ref a_t_edges_row, .int k_t_edges_knots, .int k_t_edges_nextStamp])), (a_t_edges_row, .inr (3, [.ref a_t_edges_row_items, .int R.2.1])), (a_t_edges_row_items, .inl (cI, 24, .inl R.2.2.1)), (a_t_acts, .inr (0, [.ref a_t_acts_deleted, .ref a_t_acts_places])), (a_t_acts_deleted, .inr (3, [.ref a_t_acts_deleted_items, .int R.2.2.2.1])), (a_t_acts_deleted_items, .inl (cI, 14, .inl R.2.2.2.2.1)), (a_t_acts_places, .inr (3, [.ref a_t_acts_places_items, .int R.2.2.2.2.2.1])), (a_t_acts_places_items, .inl (cI, 14, .inl R.2.2.2.2.2.2))] (some (.int R.1)) := by
  refine kM_of cX10_delete 5 (some .int) RX10 (by decide) rfl rfl (Nat.le_of_ble_eq_true rfl) ?_
  intro p e s m below meth c A ls X hA hP hD hS hl
  have hx := X.1.1
  have hb := X.1.2.1
  have hts := X.1.2.2.2.2
  have hown := X.1.2.2.2.1
  have hK := X.2.2.2.1
  have l_19 : (.fieldLink RX10 19 "CoverOrder" "edges" "LCoverOrder$Edges;" : Cond).before _ s = true := hts _ (List.mem_of_getElem? (i := 1) (by decide +kernel))
  have i_X10 : ∀ w ∈ u_ws RX10 TX10 13, w ∈ wsX10_delete := k_in _ [72, 73, 74, 75, 76, 77, 78, 79, 80, 81, 82, 83, 84] (by decide +kernel)
  have l_29 : (.fieldLink RX10 29 "CoverOrder" "acts" "LCoverOrder$Acts;" : Cond).before _ s = true := hts _ (List.mem_of_getElem? (i := 2) (by decide +kernel))
  have hl : lv_has ls 5 [(0, .ref a_t), (1, .int p1), (2, .int p2)] := hl
  rw [mX10_delete] at hm
  refine lv_aload_n hx hb dX10_delete_0 rfl (lv_at hl 0 rfl) ?_
  refine va_get (D := G) (ci := 7) (v := .ref a_t_edges) (C := RX10) (T := TX10) (N := 13) hx hb hts i_X10 hown hK hP 0 rfl rfl 1 (by decide) l_19 (fun _ h9 => h9) rfl dX10_delete_1 ?_
  refine lv_iload_n hx hb dX10_delete_4 rfl (lv_at hl 1 rfl) ?_
  refine lv_iload_n hx hb dX10_delete_5 rfl (lv_at hl 2 rfl) ?_
  refine kcV0 (st1 := [.int (bI (mX3_areKnots k_t_edges_knots p1 p2))]) X hA (c_X3_areKnots l G cI cZ cE a_t_edges a_t_edges_row k_t_edges_knots k_t_edges_nextStamp p1 p2 _ rfl) (cwV 2 hts gX10_delete_X3_areKnots rfl rfl rfl hd_X3_areKnots ⟨Nat.le_of_ble_eq_true rfl, Nat.le_of_ble_eq_true rfl⟩) 1 2 rfl rfl hl.1 dX10_delete_6 hP hD hS [1] rfl rfl rfl [] rfl (Nat.le_of_ble_eq_true rfl) rfl ⟨Nat.zero_le _, Nat.zero_le _⟩ (fun H locs hP hD hS => ?_)
  refine lv_if_ne (tgt := 14) hx hb dX10_delete_9 (by decide) (fun c9 => ?_) (fun c9 => ?_)
  · have c9 := kb1 c9
    rw [if_pos c9] at hm
    refine lv_aload_n hx hb dX10_delete_14 rfl (lv_at hl 0 rfl) ?_
    refine va_get (D := G) (ci := 7) (v := .ref a_t_edges) (C := RX10) (T := TX10) (N := 13) hx hb hts i_X10 hown hK hP 0 rfl rfl 1 (by decide) l_19 (fun _ h9 => h9) rfl dX10_delete_15 ?_
    refine lv_iload_n hx hb dX10_delete_18 rfl (lv_at hl 1 rfl) ?_
    refine lv_iload_n hx hb dX10_delete_19 rfl (lv_at hl 2 rfl) ?_
    obtain ⟨r20, hc20, hm⟩ := kbind hm
    refine kcV0 (st1 := [.int (bI r20)]) X hA (c_X3_has l G cI cZ cE a_t_edges a_t_edges_row a_t_edges_row_items k_t_edges_knots k_t_edges_nextStamp k_t_edges_row_size f_t_edges_row_items p1 p2 r20 hc20) (cwV 2 hts gX10_delete_X3_has rfl rfl rfl hd_X3_has ⟨Nat.le_of_ble_eq_true rfl, Nat.le_of_ble_eq_true rfl⟩) 1 2 rfl rfl hl.1 dX10_delete_20 hP hD hS [1, 2, 3] rfl rfl rfl [] rfl (Nat.le_of_ble_eq_true rfl) rfl ⟨Nat.zero_le _, Nat.zero_le _⟩ (fun H locs hP hD hS => ?_)
    refine lv_if_ne (tgt := 29) hx hb dX10_delete_23 (by decide) (fun c23 => ?_) (fun c23 => ?_)
    · have c23 := kb1 c23
      rw [if_pos c23] at hm
      refine lv_aload_n hx hb dX10_delete_29 rfl (lv_at hl 0 rfl) ?_
      refine va_get (D := G) (ci := 7) (v := .ref a_t_edges) (C := RX10) (T := TX10) (N := 13) hx hb hts i_X10 hown hK hP 0 rfl rfl 1 (by decide) l_19 (fun _ h9 => h9) rfl dX10_delete_30 ?_
      refine lv_iload_n hx hb dX10_delete_33 rfl (lv_at hl 1 rfl) ?_
      refine lv_iload_n hx hb dX10_delete_34 rfl (lv_at hl 2 rfl) ?_
      obtain ⟨r35, hc35, hm⟩ := kbind hm
      refine kcV0 (st1 := [.int r35]) X hA (c_X3_placeOf l G cI cZ cE a_t_edges a_t_edges_row a_t_edges_row_items k_t_edges_knots k_t_edges_nextStamp k_t_edges_row_size f_t_edges_row_items p1 p2 r35 hc35) (cwV 2 hts gX10_delete_X3_placeOf rfl rfl rfl hd_X3_placeOf ⟨Nat.le_of_ble_eq_true rfl, Nat.le_of_ble_eq_true rfl⟩) 1 2 rfl rfl hl.1 dX10_delete_35 hP hD hS [1, 2, 3] rfl rfl rfl [] rfl (Nat.le_of_ble_eq_true rfl) rfl ⟨Nat.zero_le _, Nat.zero_le _⟩ (fun H locs hP hD hS => ?_)
      refine lv_istore_n (lv' := [(3, .int r35), (0, .ref a_t), (1, .int p1), (2, .int p2)]) hx hb dX10_delete_38 rfl hl (by decide) rfl (fun ls hl => ?_)
      refine lv_aload_n hx hb dX10_delete_39 rfl (lv_at hl 1 rfl) ?_
      refine va_get (D := G) (ci := 7) (v := .ref a_t_edges) (C := RX10) (T := TX10) (N := 13) hx hb hts i_X10 hown hK hP 0 rfl rfl 1 (by decide) l_19 (fun _ h9 => h9) rfl dX10_delete_40 ?_
      refine lv_iload_n hx hb dX10_delete_43 rfl (lv_at hl 0 rfl) ?_
      obtain ⟨r44, hc44, hm⟩ := kbind hm
      refine kcV (ws1 := [(a_t, .inr (7, [.ref a_t_text, .ref a_t_edges, .ref a_t_trial, .ref a_t_acts, .ref a_t_slots, .ref a_t_seen, .ref a_t_covers, .ref a_t_trialCovers, .ref a_t_walk, .ref a_t_least, .ref a_t_told, .int k_t_keptSlots, .long k_t_theSeed])), (a_t_edges, .inr (2, [.ref a_t_edges_row, .int k_t_edges_knots, .int k_t_edges_nextStamp])), (a_t_edges_row, .inr (3, [.ref a_t_edges_row_items, .int r44.2.1])), (a_t_edges_row_items, .inl (cI, 24, .inl r44.2.2)), (a_t_acts, .inr (0, [.ref a_t_acts_deleted, .ref a_t_acts_places])), (a_t_acts_deleted, .inr (3, [.ref a_t_acts_deleted_items, .int k_t_acts_deleted_size])), (a_t_acts_deleted_items, .inl (cI, 14, .inl f_t_acts_deleted_items)), (a_t_acts_places, .inr (3, [.ref a_t_acts_places_items, .int k_t_acts_places_size])), (a_t_acts_places_items, .inl (cI, 14, .inl f_t_acts_places_items))]) (st1 := [.int r44.1]) X hA (c_X3_takeOut l G cI cZ cE a_t_edges a_t_edges_row a_t_edges_row_items k_t_edges_knots k_t_edges_nextStamp k_t_edges_row_size f_t_edges_row_items r35 r44 hc44) (cwV 1 hts gX10_delete_X3_takeOut rfl rfl rfl hd_X3_takeOut ⟨Nat.le_of_ble_eq_true rfl, Nat.le_of_ble_eq_true rfl⟩) 1 2 rfl rfl hl.1 dX10_delete_44 hP hD hS [1, 2, 3] rfl rfl rfl rfl rfl [] rfl (Nat.le_of_ble_eq_true rfl) rfl ⟨Nat.zero_le _, Nat.zero_le _⟩ (fun H locs hP hD hS => ?_)
      refine lv_istore (lv' := [(4, .int r44.1), (3, .int r35), (0, .ref a_t), (1, .int p1), (2, .int p2)]) hx hb dX10_delete_47 hl (by decide) rfl (fun ls hl => ?_)
      refine lv_aload_n hx hb dX10_delete_49 rfl (lv_at hl 2 rfl) ?_
      refine va_get (D := G) (ci := 7) (v := .ref a_t_acts) (C := RX10) (T := TX10) (N := 13) hx hb hts i_X10 hown hK hP 0 rfl rfl 3 (by decide) l_29 (fun _ h9 => h9) rfl dX10_delete_50 ?_
      refine lv_iload_n hx hb dX10_delete_53 rfl (lv_at hl 1 rfl) ?_
      refine lv_iload hx hb dX10_delete_54 (lv_at hl 0 rfl) ?_
      obtain ⟨r56, hc56, hm⟩ := kbind hm
      refine kcV (ws1 := [(a_t, .inr (7, [.ref a_t_text, .ref a_t_edges, .ref a_t_trial, .ref a_t_acts, .ref a_t_slots, .ref a_t_seen, .ref a_t_covers, .ref a_t_trialCovers, .ref a_t_walk, .ref a_t_least, .ref a_t_told, .int k_t_keptSlots, .long k_t_theSeed])), (a_t_edges, .inr (2, [.ref a_t_edges_row, .int k_t_edges_knots, .int k_t_edges_nextStamp])), (a_t_edges_row, .inr (3, [.ref a_t_edges_row_items, .int r44.2.1])), (a_t_edges_row_items, .inl (cI, 24, .inl r44.2.2)), (a_t_acts, .inr (0, [.ref a_t_acts_deleted, .ref a_t_acts_places])), (a_t_acts_deleted, .inr (3, [.ref a_t_acts_deleted_items, .int r56.1])), (a_t_acts_deleted_items, .inl (cI, 14, .inl r56.2.1)), (a_t_acts_places, .inr (3, [.ref a_t_acts_places_items, .int r56.2.2.1])), (a_t_acts_places_items, .inl (cI, 14, .inl r56.2.2.2))]) (st1 := []) X hA (c_X0_addDeleted l G cI cZ cE a_t_acts a_t_acts_deleted a_t_acts_places a_t_acts_deleted_items a_t_acts_places_items k_t_acts_deleted_size f_t_acts_deleted_items k_t_acts_places_size f_t_acts_places_items r35 r44.1 r56 hc56) (cwV 2 hts gX10_delete_X0_addDeleted rfl rfl rfl hd_X0_addDeleted ⟨Nat.le_of_ble_eq_true rfl, Nat.le_of_ble_eq_true rfl⟩) 4 0 rfl rfl hl.1 dX10_delete_56 hP hD hS [4, 5, 6, 7, 8] rfl rfl rfl rfl rfl [] rfl (Nat.le_of_ble_eq_true rfl) rfl ⟨Nat.zero_le _, Nat.zero_le _⟩ (fun H locs hP hD hS => ?_)
      refine lv_iload hx hb dX10_delete_59 (lv_at hl 0 rfl) ?_
      refine kcS0 (st1 := [.int (mX3_stampOf r44.1)]) X hA (c_X3_stampOf l G cI cZ cE r44.1 _ rfl) (va_cwS 1 hts gX10_delete_X3_stampOf rfl rfl rfl hd_X3_stampOf ⟨Nat.le_of_ble_eq_true rfl, Nat.le_of_ble_eq_true rfl⟩) hl.1 dX10_delete_61 hP hD hS [] rfl rfl rfl [] rfl (Nat.le_of_ble_eq_true rfl) rfl ⟨Nat.zero_le _, Nat.zero_le _⟩ (fun H locs hP hD hS => ?_)
      have hm := Option.some.inj hm
      subst hm
      exact k_iret (v := (mX3_stampOf r44.1)) X rfl dX10_delete_64 hP hD hS
    · have c23 := kb0 c23
      rw [if_neg c23] at hm
      refine lv_bipush (v := (-3)) hx hb dX10_delete_26 (by decide) ?_
      have hm := Option.some.inj hm
      subst hm
      exact k_iret (v := (-3)) X rfl dX10_delete_28 hP hD hS
  · have c9 := kb0 c9
    rw [if_neg c9] at hm
    refine lv_iconst (v := (-1)) hx hb dX10_delete_12 (by decide) ?_
    have hm := Option.some.inj hm
    subst hm
    exact k_iret (v := (-1)) X rfl dX10_delete_13 hP hD hS
theorem hd_X10_delete : yX10_delete.cls = RX10 ∧ yX10_delete.cls ≠ "java/lang/invoke/MethodHandle" ∧ yX10_delete.cls ≠ "java/lang/invoke/VarHandle" ∧ (parseMethodDescriptor yX10_delete.desc).map (fun d => d.parameters.length) = some 2 := by decide +kernel
/-! CoverOrder undo -/
set_option maxRecDepth 100000 in
set_option maxHeartbeats 4000000 in
theorem c_X10_undo (l : Launch) (G : va_G) (cI cZ cE : ClassId) (a_t a_t_text a_t_edges a_t_trial a_t_acts a_t_slots a_t_seen a_t_covers a_t_trialCovers a_t_walk a_t_least a_t_told a_t_edges_row a_t_edges_row_items a_t_acts_deleted a_t_acts_places a_t_acts_deleted_items a_t_acts_places_items : Nat) (k_t_keptSlots : Int32) (k_t_theSeed : Int64) (k_t_edges_knots : Int32) (k_t_edges_nextStamp : Int32) (k_t_edges_row_size : Int32) (f_t_edges_row_items : Nat → Int32) (k_t_acts_deleted_size : Int32) (f_t_acts_deleted_items : Nat → Int32) (k_t_acts_places_size : Int32) (f_t_acts_places_items : Nat → Int32) (R : Int32 × Int32 × Int32 × (Nat → Int32) × Int32 × (Nat → Int32) × Int32 × (Nat → Int32)) (hm : mX10_undo k_t_edges_nextStamp k_t_edges_row_size f_t_edges_row_items k_t_acts_deleted_size f_t_acts_deleted_items k_t_acts_places_size f_t_acts_places_items = some R) : kM l yX10_undo wsX10_undo { frames := 4, cells := 0, slots := 0, locals := 88 } G cI cZ cE [.ref a_t] [(a_t, .inr (7, [.ref a_t_text, .ref a_t_edges, .ref a_t_trial, .ref a_t_acts, .ref a_t_slots, .ref a_t_seen, .ref a_t_covers, .ref a_t_trialCovers, .ref a_t_walk, .ref a_t_least, .ref a_t_told, .int k_t_keptSlots, .long k_t_theSeed])), (a_t_edges, .inr (2, [.ref a_t_edges_row, .int k_t_edges_knots, .int k_t_edges_nextStamp])), (a_t_edges_row, .inr (3, [.ref a_t_edges_row_items, .int k_t_edges_row_size])), (a_t_edges_row_items, .inl (cI, 24, .inl f_t_edges_row_items)), (a_t_acts, .inr (0, [.ref a_t_acts_deleted, .ref a_t_acts_places])), (a_t_acts_deleted, .inr (3, [.ref a_t_acts_deleted_items, .int k_t_acts_deleted_size])), (a_t_acts_deleted_items, .inl (cI, 14, .inl f_t_acts_deleted_items)), (a_t_acts_places, .inr (3, [.ref a_t_acts_places_items, .int k_t_acts_places_size])), (a_t_acts_places_items, .inl (cI, 14, .inl f_t_acts_places_items))] [(a_t, .inr (7, [.ref a_t_text, .ref a_t_edges, .ref a_t_trial, .ref a_t_acts, .ref a_t_slots, .ref a_t_seen, .ref a_t_covers, .ref a_t_trialCovers, .ref a_t_walk, .ref a_t_least, .ref a_t_told, .int k_t_keptSlots, .long k_t_theSeed])), (a_t_edges, .inr (2, [.ref a_t_edges_row, .int k_t_edges_knots, .int R.2.1])), (a_t_edges_row, .inr (3, [.ref a_t_edges_row_items, .int R.2.2.1])), (a_t_edges_row_items, .inl (cI, 24, .inl R.2.2.2.1)), (a_t_acts, .inr (0, [.ref a_t_acts_deleted, .ref a_t_acts_places])), (a_t_acts_deleted, .inr (3, [.ref a_t_acts_deleted_items, .int R.2.2.2.2.1])), (a_t_acts_deleted_items, .inl (cI, 14, .inl R.2.2.2.2.2.1)), (a_t_acts_places, .inr (3, [.ref a_t_acts_places_items, .int R.2.2.2.2.2.2.1])), (a_t_acts_places_items, .inl (cI, 14, .inl R.2.2.2.2.2.2.2))] (some (.int R.1)) := by
  refine kM_of cX10_undo 1 (some .int) RX10 (by decide) rfl rfl (Nat.le_of_ble_eq_true rfl) ?_
  intro p e s m below meth c A ls X hA hP hD hS hl
  have hx := X.1.1
  have hb := X.1.2.1
  have hts := X.1.2.2.2.2
  have hown := X.1.2.2.2.1
  have hK := X.2.2.2.1
  have l_29 : (.fieldLink RX10 29 "CoverOrder" "acts" "LCoverOrder$Acts;" : Cond).before _ s = true := hts _ (List.mem_of_getElem? (i := 1) (by decide +kernel))
  have i_X10 : ∀ w ∈ u_ws RX10 TX10 13, w ∈ wsX10_undo := k_in _ [49, 50, 51, 52, 53, 54, 55, 56, 57, 58, 59, 60, 61] (by decide +kernel)
  have l_19 : (.fieldLink RX10 19 "CoverOrder" "edges" "LCoverOrder$Edges;" : Cond).before _ s = true := hts _ (List.mem_of_getElem? (i := 2) (by decide +kernel))
  have hl : lv_has ls 1 [(0, .ref a_t)] := hl
  rw [mX10_undo] at hm
  refine lv_aload_n hx hb dX10_undo_0 rfl (lv_at hl 0 rfl) ?_
  refine va_get (D := G) (ci := 7) (v := .ref a_t_acts) (C := RX10) (T := TX10) (N := 13) hx hb hts i_X10 hown hK hP 0 rfl rfl 3 (by decide) l_29 (fun _ h9 => h9) rfl dX10_undo_1 ?_
  refine kcV0 (st1 := [.int (mX0_size k_t_acts_places_size)]) X hA (c_X0_size l G cI cZ cE a_t_acts a_t_acts_deleted a_t_acts_places a_t_acts_places_items k_t_acts_places_size _ rfl) (cwV 0 hts gX10_undo_X0_size rfl rfl rfl hd_X0_size ⟨Nat.le_of_ble_eq_true rfl, Nat.le_of_ble_eq_true rfl⟩) 4 0 rfl rfl hl.1 dX10_undo_4 hP hD hS [4, 7] rfl rfl rfl [] rfl (Nat.le_of_ble_eq_true rfl) rfl ⟨Nat.zero_le _, Nat.zero_le _⟩ (fun H locs hP hD hS => ?_)
  refine lv_if_ne (tgt := 13) hx hb dX10_undo_7 (by decide) (fun c7 => ?_) (fun c7 => ?_)
  · rw [if_neg c7] at hm
    refine lv_aload_n hx hb dX10_undo_13 rfl (lv_at hl 0 rfl) ?_
    refine va_get (D := G) (ci := 7) (v := .ref a_t_acts) (C := RX10) (T := TX10) (N := 13) hx hb hts i_X10 hown hK hP 0 rfl rfl 3 (by decide) l_29 (fun _ h9 => h9) rfl dX10_undo_14 ?_
    refine lv_aload_n hx hb dX10_undo_17 rfl (lv_at hl 0 rfl) ?_
    refine va_get (D := G) (ci := 7) (v := .ref a_t_edges) (C := RX10) (T := TX10) (N := 13) hx hb hts i_X10 hown hK hP 0 rfl rfl 1 (by decide) l_19 (fun _ h9 => h9) rfl dX10_undo_18 ?_
    obtain ⟨r21, hc21, hm⟩ := kbind hm
    refine kcV (ws1 := [(a_t, .inr (7, [.ref a_t_text, .ref a_t_edges, .ref a_t_trial, .ref a_t_acts, .ref a_t_slots, .ref a_t_seen, .ref a_t_covers, .ref a_t_trialCovers, .ref a_t_walk, .ref a_t_least, .ref a_t_told, .int k_t_keptSlots, .long k_t_theSeed])), (a_t_edges, .inr (2, [.ref a_t_edges_row, .int k_t_edges_knots, .int r21.2.2.2.2.1])), (a_t_edges_row, .inr (3, [.ref a_t_edges_row_items, .int r21.2.2.2.2.2.1])), (a_t_edges_row_items, .inl (cI, 24, .inl r21.2.2.2.2.2.2)), (a_t_acts, .inr (0, [.ref a_t_acts_deleted, .ref a_t_acts_places])), (a_t_acts_deleted, .inr (3, [.ref a_t_acts_deleted_items, .int r21.1])), (a_t_acts_deleted_items, .inl (cI, 14, .inl r21.2.1)), (a_t_acts_places, .inr (3, [.ref a_t_acts_places_items, .int r21.2.2.1])), (a_t_acts_places_items, .inl (cI, 14, .inl r21.2.2.2.1))]) (st1 := []) X hA (c_X0_undoLast l G cI cZ cE a_t_acts a_t_acts_deleted a_t_acts_places a_t_acts_deleted_items a_t_acts_places_items a_t_edges a_t_edges_row a_t_edges_row_items k_t_acts_deleted_size f_t_acts_deleted_items k_t_acts_places_size f_t_acts_places_items k_t_edges_knots k_t_edges_nextStamp k_t_edges_row_size f_t_edges_row_items r21 hc21) (cwV 1 hts gX10_undo_X0_undoLast rfl rfl rfl hd_X0_undoLast ⟨Nat.le_of_ble_eq_true rfl, Nat.le_of_ble_eq_true rfl⟩) 4 0 rfl rfl hl.1 dX10_undo_21 hP hD hS [4, 5, 6, 7, 8, 1, 2, 3] rfl rfl rfl rfl rfl [] rfl (Nat.le_of_ble_eq_true rfl) rfl ⟨Nat.zero_le _, Nat.zero_le _⟩ (fun H locs hP hD hS => ?_)
    refine lv_aload_n hx hb dX10_undo_24 rfl (lv_at hl 0 rfl) ?_
    refine va_get (D := G) (ci := 7) (v := .ref a_t_acts) (C := RX10) (T := TX10) (N := 13) hx hb hts i_X10 hown hK hP 0 rfl rfl 3 (by decide) l_29 (fun _ h9 => h9) rfl dX10_undo_25 ?_
    refine kcV0 (st1 := [.int (mX0_size r21.2.2.1)]) X hA (c_X0_size l G cI cZ cE a_t_acts a_t_acts_deleted a_t_acts_places a_t_acts_places_items r21.2.2.1 _ rfl) (cwV 0 hts gX10_undo_X0_size rfl rfl rfl hd_X0_size ⟨Nat.le_of_ble_eq_true rfl, Nat.le_of_ble_eq_true rfl⟩) 4 0 rfl rfl hl.1 dX10_undo_28 hP hD hS [4, 7] rfl rfl rfl [] rfl (Nat.le_of_ble_eq_true rfl) rfl ⟨Nat.zero_le _, Nat.zero_le _⟩ (fun H locs hP hD hS => ?_)
    have hm := Option.some.inj hm
    subst hm
    exact k_iret (v := (mX0_size r21.2.2.1)) X rfl dX10_undo_31 hP hD hS
  · rw [if_pos c7] at hm
    refine lv_bipush (v := (-3)) hx hb dX10_undo_10 (by decide) ?_
    have hm := Option.some.inj hm
    subst hm
    exact k_iret (v := (-3)) X rfl dX10_undo_12 hP hD hS
theorem hd_X10_undo : yX10_undo.cls = RX10 ∧ yX10_undo.cls ≠ "java/lang/invoke/MethodHandle" ∧ yX10_undo.cls ≠ "java/lang/invoke/VarHandle" ∧ (parseMethodDescriptor yX10_undo.desc).map (fun d => d.parameters.length) = some 0 := by decide +kernel
/-! CoverOrder stamp -/
set_option maxRecDepth 100000 in
set_option maxHeartbeats 4000000 in
theorem c_X10_stamp (l : Launch) (G : va_G) (cI cZ cE : ClassId) (a_t a_t_text a_t_edges a_t_trial a_t_acts a_t_slots a_t_seen a_t_covers a_t_trialCovers a_t_walk a_t_least a_t_told a_t_edges_row a_t_edges_row_items : Nat) (k_t_keptSlots : Int32) (k_t_theSeed : Int64) (k_t_edges_knots : Int32) (k_t_edges_nextStamp : Int32) (k_t_edges_row_size : Int32) (f_t_edges_row_items : Nat → Int32) (p1 : Int32) (p2 : Int32) (R : Int32) (hm : mX10_stamp k_t_edges_knots k_t_edges_row_size f_t_edges_row_items p1 p2 = some R) : kM l yX10_stamp wsX10_stamp { frames := 3, cells := 0, slots := 0, locals := 66 } G cI cZ cE [.ref a_t, .int p1, .int p2] [(a_t, .inr (7, [.ref a_t_text, .ref a_t_edges, .ref a_t_trial, .ref a_t_acts, .ref a_t_slots, .ref a_t_seen, .ref a_t_covers, .ref a_t_trialCovers, .ref a_t_walk, .ref a_t_least, .ref a_t_told, .int k_t_keptSlots, .long k_t_theSeed])), (a_t_edges, .inr (2, [.ref a_t_edges_row, .int k_t_edges_knots, .int k_t_edges_nextStamp])), (a_t_edges_row, .inr (3, [.ref a_t_edges_row_items, .int k_t_edges_row_size])), (a_t_edges_row_items, .inl (cI, 24, .inl f_t_edges_row_items))] [(a_t, .inr (7, [.ref a_t_text, .ref a_t_edges, .ref a_t_trial, .ref a_t_acts, .ref a_t_slots, .ref a_t_seen, .ref a_t_covers, .ref a_t_trialCovers, .ref a_t_walk, .ref a_t_least, .ref a_t_told, .int k_t_keptSlots, .long k_t_theSeed])), (a_t_edges, .inr (2, [.ref a_t_edges_row, .int k_t_edges_knots, .int k_t_edges_nextStamp])), (a_t_edges_row, .inr (3, [.ref a_t_edges_row_items, .int k_t_edges_row_size])), (a_t_edges_row_items, .inl (cI, 24, .inl f_t_edges_row_items))] (some (.int R)) := by
  refine kM_of cX10_stamp 3 (some .int) RX10 (by decide) rfl rfl (Nat.le_of_ble_eq_true rfl) ?_
  intro p e s m below meth c A ls X hA hP hD hS hl
  have hx := X.1.1
  have hb := X.1.2.1
  have hts := X.1.2.2.2.2
  have hown := X.1.2.2.2.1
  have hK := X.2.2.2.1
  have l_19 : (.fieldLink RX10 19 "CoverOrder" "edges" "LCoverOrder$Edges;" : Cond).before _ s = true := hts _ (List.mem_of_getElem? (i := 1) (by decide +kernel))
  have i_X10 : ∀ w ∈ u_ws RX10 TX10 13, w ∈ wsX10_stamp := k_in _ [46, 47, 48, 49, 50, 51, 52, 53, 54, 55, 56, 57, 58] (by decide +kernel)
  have hl : lv_has ls 3 [(0, .ref a_t), (1, .int p1), (2, .int p2)] := hl
  rw [mX10_stamp] at hm
  refine lv_aload_n hx hb dX10_stamp_0 rfl (lv_at hl 0 rfl) ?_
  refine va_get (D := G) (ci := 7) (v := .ref a_t_edges) (C := RX10) (T := TX10) (N := 13) hx hb hts i_X10 hown hK hP 0 rfl rfl 1 (by decide) l_19 (fun _ h9 => h9) rfl dX10_stamp_1 ?_
  refine lv_iload_n hx hb dX10_stamp_4 rfl (lv_at hl 1 rfl) ?_
  refine lv_iload_n hx hb dX10_stamp_5 rfl (lv_at hl 2 rfl) ?_
  refine kcV0 (st1 := [.int (bI (mX3_areKnots k_t_edges_knots p1 p2))]) X hA (c_X3_areKnots l G cI cZ cE a_t_edges a_t_edges_row k_t_edges_knots k_t_edges_nextStamp p1 p2 _ rfl) (cwV 2 hts gX10_stamp_X3_areKnots rfl rfl rfl hd_X3_areKnots ⟨Nat.le_of_ble_eq_true rfl, Nat.le_of_ble_eq_true rfl⟩) 1 2 rfl rfl hl.1 dX10_stamp_6 hP hD hS [1] rfl rfl rfl [] rfl (Nat.le_of_ble_eq_true rfl) rfl ⟨Nat.zero_le _, Nat.zero_le _⟩ (fun H locs hP hD hS => ?_)
  refine lv_if_ne (tgt := 14) hx hb dX10_stamp_9 (by decide) (fun c9 => ?_) (fun c9 => ?_)
  · have c9 := kb1 c9
    rw [if_pos c9] at hm
    refine lv_aload_n hx hb dX10_stamp_14 rfl (lv_at hl 0 rfl) ?_
    refine va_get (D := G) (ci := 7) (v := .ref a_t_edges) (C := RX10) (T := TX10) (N := 13) hx hb hts i_X10 hown hK hP 0 rfl rfl 1 (by decide) l_19 (fun _ h9 => h9) rfl dX10_stamp_15 ?_
    refine lv_iload_n hx hb dX10_stamp_18 rfl (lv_at hl 1 rfl) ?_
    refine lv_iload_n hx hb dX10_stamp_19 rfl (lv_at hl 2 rfl) ?_
    obtain ⟨r20, hc20, hm⟩ := kbind hm
    refine kcV0 (st1 := [.int (bI r20)]) X hA (c_X3_has l G cI cZ cE a_t_edges a_t_edges_row a_t_edges_row_items k_t_edges_knots k_t_edges_nextStamp k_t_edges_row_size f_t_edges_row_items p1 p2 r20 hc20) (cwV 2 hts gX10_stamp_X3_has rfl rfl rfl hd_X3_has ⟨Nat.le_of_ble_eq_true rfl, Nat.le_of_ble_eq_true rfl⟩) 1 2 rfl rfl hl.1 dX10_stamp_20 hP hD hS [1, 2, 3] rfl rfl rfl [] rfl (Nat.le_of_ble_eq_true rfl) rfl ⟨Nat.zero_le _, Nat.zero_le _⟩ (fun H locs hP hD hS => ?_)
    refine lv_if_eq (tgt := 48) hx hb dX10_stamp_23 (by decide) (fun c23 => ?_) (fun c23 => ?_)
    · have c23 := kb0 c23
      rw [if_neg c23] at hm
      refine lv_bipush (v := (-9)) hx hb dX10_stamp_48 (by decide) ?_
      have hm := Option.some.inj hm
      subst hm
      exact k_iret (v := (-9)) X rfl dX10_stamp_50 hP hD hS
    · have c23 := kb1 c23
      rw [if_pos c23] at hm
      refine lv_aload_n hx hb dX10_stamp_26 rfl (lv_at hl 0 rfl) ?_
      refine va_get (D := G) (ci := 7) (v := .ref a_t_edges) (C := RX10) (T := TX10) (N := 13) hx hb hts i_X10 hown hK hP 0 rfl rfl 1 (by decide) l_19 (fun _ h9 => h9) rfl dX10_stamp_27 ?_
      refine lv_aload_n hx hb dX10_stamp_30 rfl (lv_at hl 0 rfl) ?_
      refine va_get (D := G) (ci := 7) (v := .ref a_t_edges) (C := RX10) (T := TX10) (N := 13) hx hb hts i_X10 hown hK hP 0 rfl rfl 1 (by decide) l_19 (fun _ h9 => h9) rfl dX10_stamp_31 ?_
      refine lv_iload_n hx hb dX10_stamp_34 rfl (lv_at hl 1 rfl) ?_
      refine lv_iload_n hx hb dX10_stamp_35 rfl (lv_at hl 2 rfl) ?_
      obtain ⟨r36, hc36, hm⟩ := kbind hm
      refine kcV0 (st1 := [.int r36, .ref a_t_edges]) X hA (c_X3_placeOf l G cI cZ cE a_t_edges a_t_edges_row a_t_edges_row_items k_t_edges_knots k_t_edges_nextStamp k_t_edges_row_size f_t_edges_row_items p1 p2 r36 hc36) (cwV 2 hts gX10_stamp_X3_placeOf rfl rfl rfl hd_X3_placeOf ⟨Nat.le_of_ble_eq_true rfl, Nat.le_of_ble_eq_true rfl⟩) 1 2 rfl rfl hl.1 dX10_stamp_36 hP hD hS [1, 2, 3] rfl rfl rfl [.ref a_t_edges] rfl (Nat.le_of_ble_eq_true rfl) rfl ⟨Nat.zero_le _, Nat.zero_le _⟩ (fun H locs hP hD hS => ?_)
      refine kcV0 (st1 := [.int (mX3_at k_t_edges_row_size f_t_edges_row_items r36)]) X hA (c_X3_at l G cI cZ cE a_t_edges a_t_edges_row a_t_edges_row_items k_t_edges_knots k_t_edges_nextStamp k_t_edges_row_size f_t_edges_row_items r36 _ rfl) (cwV 1 hts gX10_stamp_X3_at rfl rfl rfl hd_X3_at ⟨Nat.le_of_ble_eq_true rfl, Nat.le_of_ble_eq_true rfl⟩) 1 2 rfl rfl hl.1 dX10_stamp_39 hP hD hS [1, 2, 3] rfl rfl rfl [] rfl (Nat.le_of_ble_eq_true rfl) rfl ⟨Nat.zero_le _, Nat.zero_le _⟩ (fun H locs hP hD hS => ?_)
      refine kcS0 (st1 := [.int (mX3_stampOf (mX3_at k_t_edges_row_size f_t_edges_row_items r36))]) X hA (c_X3_stampOf l G cI cZ cE (mX3_at k_t_edges_row_size f_t_edges_row_items r36) _ rfl) (va_cwS 1 hts gX10_stamp_X3_stampOf rfl rfl rfl hd_X3_stampOf ⟨Nat.le_of_ble_eq_true rfl, Nat.le_of_ble_eq_true rfl⟩) hl.1 dX10_stamp_42 hP hD hS [] rfl rfl rfl [] rfl (Nat.le_of_ble_eq_true rfl) rfl ⟨Nat.zero_le _, Nat.zero_le _⟩ (fun H locs hP hD hS => ?_)
      refine lv_goto (tgt := 50) hx hb dX10_stamp_45 (by decide) ?_
      have hm := Option.some.inj hm
      subst hm
      exact k_iret (v := (mX3_stampOf (mX3_at k_t_edges_row_size f_t_edges_row_items r36))) X rfl dX10_stamp_50 hP hD hS
  · have c9 := kb0 c9
    rw [if_neg c9] at hm
    refine lv_iconst (v := (-1)) hx hb dX10_stamp_12 (by decide) ?_
    have hm := Option.some.inj hm
    subst hm
    exact k_iret (v := (-1)) X rfl dX10_stamp_13 hP hD hS
theorem hd_X10_stamp : yX10_stamp.cls = RX10 ∧ yX10_stamp.cls ≠ "java/lang/invoke/MethodHandle" ∧ yX10_stamp.cls ≠ "java/lang/invoke/VarHandle" ∧ (parseMethodDescriptor yX10_stamp.desc).map (fun d => d.parameters.length) = some 2 := by decide +kernel
/-! CoverOrder edge -/
set_option maxRecDepth 100000 in
set_option maxHeartbeats 4000000 in
theorem c_X10_edge (l : Launch) (G : va_G) (cI cZ cE : ClassId) (a_t a_t_text a_t_edges a_t_trial a_t_acts a_t_slots a_t_seen a_t_covers a_t_trialCovers a_t_walk a_t_least a_t_told a_t_edges_row a_t_edges_row_items : Nat) (k_t_keptSlots : Int32) (k_t_theSeed : Int64) (k_t_edges_knots : Int32) (k_t_edges_nextStamp : Int32) (k_t_edges_row_size : Int32) (f_t_edges_row_items : Nat → Int32) (p1 : Int32) (R : Int32) (hm : mX10_edge k_t_edges_row_size f_t_edges_row_items p1 = R) : kM l yX10_edge wsX10_edge { frames := 2, cells := 0, slots := 0, locals := 42 } G cI cZ cE [.ref a_t, .int p1] [(a_t, .inr (7, [.ref a_t_text, .ref a_t_edges, .ref a_t_trial, .ref a_t_acts, .ref a_t_slots, .ref a_t_seen, .ref a_t_covers, .ref a_t_trialCovers, .ref a_t_walk, .ref a_t_least, .ref a_t_told, .int k_t_keptSlots, .long k_t_theSeed])), (a_t_edges, .inr (2, [.ref a_t_edges_row, .int k_t_edges_knots, .int k_t_edges_nextStamp])), (a_t_edges_row, .inr (3, [.ref a_t_edges_row_items, .int k_t_edges_row_size])), (a_t_edges_row_items, .inl (cI, 24, .inl f_t_edges_row_items))] [(a_t, .inr (7, [.ref a_t_text, .ref a_t_edges, .ref a_t_trial, .ref a_t_acts, .ref a_t_slots, .ref a_t_seen, .ref a_t_covers, .ref a_t_trialCovers, .ref a_t_walk, .ref a_t_least, .ref a_t_told, .int k_t_keptSlots, .long k_t_theSeed])), (a_t_edges, .inr (2, [.ref a_t_edges_row, .int k_t_edges_knots, .int k_t_edges_nextStamp])), (a_t_edges_row, .inr (3, [.ref a_t_edges_row_items, .int k_t_edges_row_size])), (a_t_edges_row_items, .inl (cI, 24, .inl f_t_edges_row_items))] (some (.int R)) := by
  refine kM_of cX10_edge 2 (some .int) RX10 (by decide) rfl rfl (Nat.le_of_ble_eq_true rfl) ?_
  intro p e s m below meth c A ls X hA hP hD hS hl
  have hx := X.1.1
  have hb := X.1.2.1
  have hts := X.1.2.2.2.2
  have hown := X.1.2.2.2.1
  have hK := X.2.2.2.1
  have l_19 : (.fieldLink RX10 19 "CoverOrder" "edges" "LCoverOrder$Edges;" : Cond).before _ s = true := hts _ (List.mem_of_getElem? (i := 1) (by decide +kernel))
  have i_X10 : ∀ w ∈ u_ws RX10 TX10 13, w ∈ wsX10_edge := k_in _ [26, 27, 28, 29, 30, 31, 32, 33, 34, 35, 36, 37, 38] (by decide +kernel)
  have hl : lv_has ls 2 [(0, .ref a_t), (1, .int p1)] := hl
  rw [mX10_edge] at hm
  refine lv_iload_n hx hb dX10_edge_0 rfl (lv_at hl 1 rfl) ?_
  refine lv_if_lt (tgt := 29) hx hb dX10_edge_1 (by decide) (fun c1 => ?_) (fun c1 => ?_)
  · rw [if_pos c1] at hm
    refine lv_bipush (v := (-9)) hx hb dX10_edge_29 (by decide) ?_
    subst hm
    exact k_iret (v := (-9)) X rfl dX10_edge_31 hP hD hS
  · rw [if_neg c1] at hm
    refine lv_iload_n hx hb dX10_edge_4 rfl (lv_at hl 1 rfl) ?_
    refine lv_aload_n hx hb dX10_edge_5 rfl (lv_at hl 0 rfl) ?_
    refine va_get (D := G) (ci := 7) (v := .ref a_t_edges) (C := RX10) (T := TX10) (N := 13) hx hb hts i_X10 hown hK hP 0 rfl rfl 1 (by decide) l_19 (fun _ h9 => h9) rfl dX10_edge_6 ?_
    refine kcV0 (st1 := [.int (mX3_size k_t_edges_row_size), .int p1]) X hA (c_X3_size l G cI cZ cE a_t_edges a_t_edges_row a_t_edges_row_items k_t_edges_knots k_t_edges_nextStamp k_t_edges_row_size _ rfl) (cwV 0 hts gX10_edge_X3_size rfl rfl rfl hd_X3_size ⟨Nat.le_of_ble_eq_true rfl, Nat.le_of_ble_eq_true rfl⟩) 1 2 rfl rfl hl.1 dX10_edge_9 hP hD hS [1, 2] rfl rfl rfl [.int p1] rfl (Nat.le_of_ble_eq_true rfl) rfl ⟨Nat.zero_le _, Nat.zero_le _⟩ (fun H locs hP hD hS => ?_)
    refine lv_icmp_ge (tgt := 29) hx hb dX10_edge_12 (by decide) (fun c12 => ?_) (fun c12 => ?_)
    · rw [if_pos c12] at hm
      refine lv_bipush (v := (-9)) hx hb dX10_edge_29 (by decide) ?_
      subst hm
      exact k_iret (v := (-9)) X rfl dX10_edge_31 hP hD hS
    · rw [if_neg c12] at hm
      refine lv_aload_n hx hb dX10_edge_15 rfl (lv_at hl 0 rfl) ?_
      refine va_get (D := G) (ci := 7) (v := .ref a_t_edges) (C := RX10) (T := TX10) (N := 13) hx hb hts i_X10 hown hK hP 0 rfl rfl 1 (by decide) l_19 (fun _ h9 => h9) rfl dX10_edge_16 ?_
      refine lv_iload_n hx hb dX10_edge_19 rfl (lv_at hl 1 rfl) ?_
      refine kcV0 (st1 := [.int (mX3_at k_t_edges_row_size f_t_edges_row_items p1)]) X hA (c_X3_at l G cI cZ cE a_t_edges a_t_edges_row a_t_edges_row_items k_t_edges_knots k_t_edges_nextStamp k_t_edges_row_size f_t_edges_row_items p1 _ rfl) (cwV 1 hts gX10_edge_X3_at rfl rfl rfl hd_X3_at ⟨Nat.le_of_ble_eq_true rfl, Nat.le_of_ble_eq_true rfl⟩) 1 2 rfl rfl hl.1 dX10_edge_20 hP hD hS [1, 2, 3] rfl rfl rfl [] rfl (Nat.le_of_ble_eq_true rfl) rfl ⟨Nat.zero_le _, Nat.zero_le _⟩ (fun H locs hP hD hS => ?_)
      refine kcS0 (st1 := [.int (mX3_pairOf (mX3_at k_t_edges_row_size f_t_edges_row_items p1))]) X hA (c_X3_pairOf l G cI cZ cE (mX3_at k_t_edges_row_size f_t_edges_row_items p1) _ rfl) (va_cwS 1 hts gX10_edge_X3_pairOf rfl rfl rfl hd_X3_pairOf ⟨Nat.le_of_ble_eq_true rfl, Nat.le_of_ble_eq_true rfl⟩) hl.1 dX10_edge_23 hP hD hS [] rfl rfl rfl [] rfl (Nat.le_of_ble_eq_true rfl) rfl ⟨Nat.zero_le _, Nat.zero_le _⟩ (fun H locs hP hD hS => ?_)
      refine lv_goto (tgt := 31) hx hb dX10_edge_26 (by decide) ?_
      subst hm
      exact k_iret (v := (mX3_pairOf (mX3_at k_t_edges_row_size f_t_edges_row_items p1))) X rfl dX10_edge_31 hP hD hS
theorem hd_X10_edge : yX10_edge.cls = RX10 ∧ yX10_edge.cls ≠ "java/lang/invoke/MethodHandle" ∧ yX10_edge.cls ≠ "java/lang/invoke/VarHandle" ∧ (parseMethodDescriptor yX10_edge.desc).map (fun d => d.parameters.length) = some 1 := by decide +kernel
/-! CoverOrder learnCovers -/
set_option maxRecDepth 100000 in
set_option maxHeartbeats 4000000 in
theorem c_X10_learnCovers (l : Launch) (G : va_G) (cI cZ cE : ClassId) (a_t a_t_text a_t_edges a_t_trial a_t_acts a_t_slots a_t_seen a_t_covers a_t_trialCovers a_t_walk a_t_least a_t_told a_t_edges_row a_t_edges_row_items : Nat) (k_t_keptSlots : Int32) (k_t_theSeed : Int64) (k_t_edges_knots : Int32) (k_t_edges_nextStamp : Int32) (k_t_edges_row_size : Int32) (f_t_edges_row_items : Nat → Int32) (k_t_covers_grid : Int64) (k_t_covers_covered : Int64) (k_t_covers_coverers : Int64) (k_t_covers_reached : Int32) (R : Int64 × Int64 × Int64 × Int32) (hm : mX10_learnCovers k_t_edges_row_size f_t_edges_row_items k_t_covers_grid k_t_covers_covered k_t_covers_coverers k_t_covers_reached = some R) : kM l yX10_learnCovers wsX10_learnCovers { frames := 4, cells := 0, slots := 0, locals := 94 } G cI cZ cE [.ref a_t] [(a_t, .inr (7, [.ref a_t_text, .ref a_t_edges, .ref a_t_trial, .ref a_t_acts, .ref a_t_slots, .ref a_t_seen, .ref a_t_covers, .ref a_t_trialCovers, .ref a_t_walk, .ref a_t_least, .ref a_t_told, .int k_t_keptSlots, .long k_t_theSeed])), (a_t_edges, .inr (2, [.ref a_t_edges_row, .int k_t_edges_knots, .int k_t_edges_nextStamp])), (a_t_edges_row, .inr (3, [.ref a_t_edges_row_items, .int k_t_edges_row_size])), (a_t_edges_row_items, .inl (cI, 24, .inl f_t_edges_row_items)), (a_t_covers, .inr (1, [.long k_t_covers_grid, .long k_t_covers_covered, .long k_t_covers_coverers, .int k_t_covers_reached]))] [(a_t, .inr (7, [.ref a_t_text, .ref a_t_edges, .ref a_t_trial, .ref a_t_acts, .ref a_t_slots, .ref a_t_seen, .ref a_t_covers, .ref a_t_trialCovers, .ref a_t_walk, .ref a_t_least, .ref a_t_told, .int k_t_keptSlots, .long k_t_theSeed])), (a_t_edges, .inr (2, [.ref a_t_edges_row, .int k_t_edges_knots, .int k_t_edges_nextStamp])), (a_t_edges_row, .inr (3, [.ref a_t_edges_row_items, .int k_t_edges_row_size])), (a_t_edges_row_items, .inl (cI, 24, .inl f_t_edges_row_items)), (a_t_covers, .inr (1, [.long R.1, .long R.2.1, .long R.2.2.1, .int R.2.2.2]))] none := by
  refine kM_of cX10_learnCovers 1 none RX10 (by decide) rfl rfl (Nat.le_of_ble_eq_true rfl) ?_
  intro p e s m below meth c A ls X hA hP hD hS hl
  have hx := X.1.1
  have hb := X.1.2.1
  have hts := X.1.2.2.2.2
  have hown := X.1.2.2.2.1
  have hK := X.2.2.2.1
  have l_49 : (.fieldLink RX10 49 "CoverOrder" "covers" "LCoverOrder$Covers;" : Cond).before _ s = true := hts _ (List.mem_of_getElem? (i := 1) (by decide +kernel))
  have i_X10 : ∀ w ∈ u_ws RX10 TX10 13, w ∈ wsX10_learnCovers := k_in _ [76, 77, 78, 79, 80, 81, 82, 83, 84, 85, 86, 87, 88] (by decide +kernel)
  have l_19 : (.fieldLink RX10 19 "CoverOrder" "edges" "LCoverOrder$Edges;" : Cond).before _ s = true := hts _ (List.mem_of_getElem? (i := 2) (by decide +kernel))
  have hl : lv_has ls 1 [(0, .ref a_t)] := hl
  rw [mX10_learnCovers] at hm
  refine lv_aload_n hx hb dX10_learnCovers_0 rfl (lv_at hl 0 rfl) ?_
  refine va_get (D := G) (ci := 7) (v := .ref a_t_covers) (C := RX10) (T := TX10) (N := 13) hx hb hts i_X10 hown hK hP 0 rfl rfl 6 (by decide) l_49 (fun _ h9 => h9) rfl dX10_learnCovers_1 ?_
  refine lv_aload_n hx hb dX10_learnCovers_4 rfl (lv_at hl 0 rfl) ?_
  refine va_get (D := G) (ci := 7) (v := .ref a_t_edges) (C := RX10) (T := TX10) (N := 13) hx hb hts i_X10 hown hK hP 0 rfl rfl 1 (by decide) l_19 (fun _ h9 => h9) rfl dX10_learnCovers_5 ?_
  obtain ⟨r8, hc8, hm⟩ := kbind hm
  refine kcV0 (st1 := [.long r8, .ref a_t_covers]) X hA (c_X3_grid l G cI cZ cE a_t_edges a_t_edges_row a_t_edges_row_items k_t_edges_knots k_t_edges_nextStamp k_t_edges_row_size f_t_edges_row_items r8 hc8) (cwV 0 hts gX10_learnCovers_X3_grid rfl rfl rfl hd_X3_grid ⟨Nat.le_of_ble_eq_true rfl, Nat.le_of_ble_eq_true rfl⟩) 1 2 rfl rfl hl.1 dX10_learnCovers_8 hP hD hS [1, 2, 3] rfl rfl rfl [.ref a_t_covers] rfl (Nat.le_of_ble_eq_true rfl) rfl ⟨Nat.zero_le _, Nat.zero_le _⟩ (fun H locs hP hD hS => ?_)
  obtain ⟨r11, hc11, hm⟩ := kbind hm
  refine kcV (ws1 := [(a_t, .inr (7, [.ref a_t_text, .ref a_t_edges, .ref a_t_trial, .ref a_t_acts, .ref a_t_slots, .ref a_t_seen, .ref a_t_covers, .ref a_t_trialCovers, .ref a_t_walk, .ref a_t_least, .ref a_t_told, .int k_t_keptSlots, .long k_t_theSeed])), (a_t_edges, .inr (2, [.ref a_t_edges_row, .int k_t_edges_knots, .int k_t_edges_nextStamp])), (a_t_edges_row, .inr (3, [.ref a_t_edges_row_items, .int k_t_edges_row_size])), (a_t_edges_row_items, .inl (cI, 24, .inl f_t_edges_row_items)), (a_t_covers, .inr (1, [.long r11.1, .long r11.2.1, .long r11.2.2.1, .int r11.2.2.2]))]) (st1 := []) X hA (c_X2_learn l G cI cZ cE a_t_covers k_t_covers_grid k_t_covers_covered k_t_covers_coverers k_t_covers_reached r8 r11 hc11) (cwV 1 hts gX10_learnCovers_X2_learn rfl rfl rfl hd_X2_learn ⟨Nat.le_of_ble_eq_true rfl, Nat.le_of_ble_eq_true rfl⟩) 4 1 rfl rfl hl.1 dX10_learnCovers_11 hP hD hS [4] rfl rfl rfl rfl rfl [] rfl (Nat.le_of_ble_eq_true rfl) rfl ⟨Nat.zero_le _, Nat.zero_le _⟩ (fun H locs hP hD hS => ?_)
  have hm := Option.some.inj hm
  subst hm
  exact k_vret X rfl dX10_learnCovers_14 hP hD hS
theorem hd_X10_learnCovers : yX10_learnCovers.cls = RX10 ∧ yX10_learnCovers.cls ≠ "java/lang/invoke/MethodHandle" ∧ yX10_learnCovers.cls ≠ "java/lang/invoke/VarHandle" ∧ (parseMethodDescriptor yX10_learnCovers.desc).map (fun d => d.parameters.length) = some 0 := by decide +kernel
/-! CoverOrder knot -/
set_option maxRecDepth 100000 in
set_option maxHeartbeats 4000000 in
theorem c_X10_knot (l : Launch) (G : va_G) (cI cZ cE : ClassId) (a_t a_t_text a_t_edges a_t_trial a_t_acts a_t_slots a_t_seen a_t_covers a_t_trialCovers a_t_walk a_t_least a_t_told a_t_edges_row a_t_edges_row_items a_t_walk_met a_t_walk_path a_t_walk_met_items a_t_walk_path_items : Nat) (k_t_keptSlots : Int32) (k_t_theSeed : Int64) (k_t_edges_knots : Int32) (k_t_edges_nextStamp : Int32) (k_t_edges_row_size : Int32) (f_t_edges_row_items : Nat → Int32) (k_t_covers_grid : Int64) (k_t_covers_covered : Int64) (k_t_covers_coverers : Int64) (k_t_covers_reached : Int32) (k_t_walk_grid : Int64) (k_t_walk_met_size : Int32) (f_t_walk_met_items : Nat → Int32) (k_t_walk_path_size : Int32) (f_t_walk_path_items : Nat → Int32) (p1 : Int32) (p2 : Int32) (R : Int32 × Int64 × Int64 × Int64 × Int32 × Int64 × Int32 × (Nat → Int32) × Int32 × (Nat → Int32)) (hm : mX10_knot k_t_edges_knots k_t_edges_row_size f_t_edges_row_items k_t_covers_grid k_t_covers_covered k_t_covers_coverers k_t_covers_reached k_t_walk_grid k_t_walk_met_size f_t_walk_met_items k_t_walk_path_size f_t_walk_path_items p1 p2 = some R) : kM l yX10_knot wsX10_knot { frames := 5, cells := 0, slots := 0, locals := 114 } G cI cZ cE [.ref a_t, .int p1, .int p2] [(a_t, .inr (7, [.ref a_t_text, .ref a_t_edges, .ref a_t_trial, .ref a_t_acts, .ref a_t_slots, .ref a_t_seen, .ref a_t_covers, .ref a_t_trialCovers, .ref a_t_walk, .ref a_t_least, .ref a_t_told, .int k_t_keptSlots, .long k_t_theSeed])), (a_t_edges, .inr (2, [.ref a_t_edges_row, .int k_t_edges_knots, .int k_t_edges_nextStamp])), (a_t_edges_row, .inr (3, [.ref a_t_edges_row_items, .int k_t_edges_row_size])), (a_t_edges_row_items, .inl (cI, 24, .inl f_t_edges_row_items)), (a_t_covers, .inr (1, [.long k_t_covers_grid, .long k_t_covers_covered, .long k_t_covers_coverers, .int k_t_covers_reached])), (a_t_walk, .inr (6, [.ref a_t_walk_met, .ref a_t_walk_path, .long k_t_walk_grid])), (a_t_walk_met, .inr (3, [.ref a_t_walk_met_items, .int k_t_walk_met_size])), (a_t_walk_met_items, .inl (cI, 8, .inl f_t_walk_met_items)), (a_t_walk_path, .inr (3, [.ref a_t_walk_path_items, .int k_t_walk_path_size])), (a_t_walk_path_items, .inl (cI, 8, .inl f_t_walk_path_items))] [(a_t, .inr (7, [.ref a_t_text, .ref a_t_edges, .ref a_t_trial, .ref a_t_acts, .ref a_t_slots, .ref a_t_seen, .ref a_t_covers, .ref a_t_trialCovers, .ref a_t_walk, .ref a_t_least, .ref a_t_told, .int k_t_keptSlots, .long k_t_theSeed])), (a_t_edges, .inr (2, [.ref a_t_edges_row, .int k_t_edges_knots, .int k_t_edges_nextStamp])), (a_t_edges_row, .inr (3, [.ref a_t_edges_row_items, .int k_t_edges_row_size])), (a_t_edges_row_items, .inl (cI, 24, .inl f_t_edges_row_items)), (a_t_covers, .inr (1, [.long R.2.1, .long R.2.2.1, .long R.2.2.2.1, .int R.2.2.2.2.1])), (a_t_walk, .inr (6, [.ref a_t_walk_met, .ref a_t_walk_path, .long R.2.2.2.2.2.1])), (a_t_walk_met, .inr (3, [.ref a_t_walk_met_items, .int R.2.2.2.2.2.2.1])), (a_t_walk_met_items, .inl (cI, 8, .inl R.2.2.2.2.2.2.2.1)), (a_t_walk_path, .inr (3, [.ref a_t_walk_path_items, .int R.2.2.2.2.2.2.2.2.1])), (a_t_walk_path_items, .inl (cI, 8, .inl R.2.2.2.2.2.2.2.2.2))] (some (.int R.1)) := by
  refine kM_of cX10_knot 3 (some .int) RX10 (by decide) rfl rfl (Nat.le_of_ble_eq_true rfl) ?_
  intro p e s m below meth c A ls X hA hP hD hS hl
  have hx := X.1.1
  have hb := X.1.2.1
  have hts := X.1.2.2.2.2
  have hown := X.1.2.2.2.1
  have hK := X.2.2.2.1
  have l_19 : (.fieldLink RX10 19 "CoverOrder" "edges" "LCoverOrder$Edges;" : Cond).before _ s = true := hts _ (List.mem_of_getElem? (i := 1) (by decide +kernel))
  have i_X10 : ∀ w ∈ u_ws RX10 TX10 13, w ∈ wsX10_knot := k_in _ [177, 178, 179, 180, 181, 182, 183, 184, 185, 186, 187, 188, 189] (by decide +kernel)
  have l_49 : (.fieldLink RX10 49 "CoverOrder" "covers" "LCoverOrder$Covers;" : Cond).before _ s = true := hts _ (List.mem_of_getElem? (i := 2) (by decide +kernel))
  have l_59 : (.fieldLink RX10 59 "CoverOrder" "walk" "LCoverOrder$Walk;" : Cond).before _ s = true := hts _ (List.mem_of_getElem? (i := 3) (by decide +kernel))
  have hl : lv_has ls 3 [(0, .ref a_t), (1, .int p1), (2, .int p2)] := hl
  rw [mX10_knot] at hm
  refine lv_aload_n hx hb dX10_knot_0 rfl (lv_at hl 0 rfl) ?_
  refine va_get (D := G) (ci := 7) (v := .ref a_t_edges) (C := RX10) (T := TX10) (N := 13) hx hb hts i_X10 hown hK hP 0 rfl rfl 1 (by decide) l_19 (fun _ h9 => h9) rfl dX10_knot_1 ?_
  refine lv_iload_n hx hb dX10_knot_4 rfl (lv_at hl 1 rfl) ?_
  refine kcV0 (st1 := [.int (bI (mX3_isKnot k_t_edges_knots p1))]) X hA (c_X3_isKnot l G cI cZ cE a_t_edges a_t_edges_row k_t_edges_knots k_t_edges_nextStamp p1 _ rfl) (cwV 1 hts gX10_knot_X3_isKnot rfl rfl rfl hd_X3_isKnot ⟨Nat.le_of_ble_eq_true rfl, Nat.le_of_ble_eq_true rfl⟩) 1 2 rfl rfl hl.1 dX10_knot_5 hP hD hS [1] rfl rfl rfl [] rfl (Nat.le_of_ble_eq_true rfl) rfl ⟨Nat.zero_le _, Nat.zero_le _⟩ (fun H locs hP hD hS => ?_)
  refine lv_if_ne (tgt := 13) hx hb dX10_knot_8 (by decide) (fun c8 => ?_) (fun c8 => ?_)
  · have c8 := kb1 c8
    rw [if_pos c8] at hm
    refine lv_aload_n hx hb dX10_knot_13 rfl (lv_at hl 0 rfl) ?_
    obtain ⟨r14, hc14, hm⟩ := kbind hm
    refine kcV (ws1 := [(a_t, .inr (7, [.ref a_t_text, .ref a_t_edges, .ref a_t_trial, .ref a_t_acts, .ref a_t_slots, .ref a_t_seen, .ref a_t_covers, .ref a_t_trialCovers, .ref a_t_walk, .ref a_t_least, .ref a_t_told, .int k_t_keptSlots, .long k_t_theSeed])), (a_t_edges, .inr (2, [.ref a_t_edges_row, .int k_t_edges_knots, .int k_t_edges_nextStamp])), (a_t_edges_row, .inr (3, [.ref a_t_edges_row_items, .int k_t_edges_row_size])), (a_t_edges_row_items, .inl (cI, 24, .inl f_t_edges_row_items)), (a_t_covers, .inr (1, [.long r14.1, .long r14.2.1, .long r14.2.2.1, .int r14.2.2.2])), (a_t_walk, .inr (6, [.ref a_t_walk_met, .ref a_t_walk_path, .long k_t_walk_grid])), (a_t_walk_met, .inr (3, [.ref a_t_walk_met_items, .int k_t_walk_met_size])), (a_t_walk_met_items, .inl (cI, 8, .inl f_t_walk_met_items)), (a_t_walk_path, .inr (3, [.ref a_t_walk_path_items, .int k_t_walk_path_size])), (a_t_walk_path_items, .inl (cI, 8, .inl f_t_walk_path_items))]) (st1 := []) X hA (c_X10_learnCovers l G cI cZ cE a_t a_t_text a_t_edges a_t_trial a_t_acts a_t_slots a_t_seen a_t_covers a_t_trialCovers a_t_walk a_t_least a_t_told a_t_edges_row a_t_edges_row_items k_t_keptSlots k_t_theSeed k_t_edges_knots k_t_edges_nextStamp k_t_edges_row_size f_t_edges_row_items k_t_covers_grid k_t_covers_covered k_t_covers_coverers k_t_covers_reached r14 hc14) (cwV 0 hts gX10_knot_X10_learnCovers rfl rfl rfl hd_X10_learnCovers ⟨Nat.le_of_ble_eq_true rfl, Nat.le_of_ble_eq_true rfl⟩) 0 7 rfl rfl hl.1 dX10_knot_14 hP hD hS [0, 1, 2, 3, 4] rfl rfl rfl rfl rfl [] rfl (Nat.le_of_ble_eq_true rfl) rfl ⟨Nat.zero_le _, Nat.zero_le _⟩ (fun H locs hP hD hS => ?_)
    refine lv_iload_n hx hb dX10_knot_17 rfl (lv_at hl 2 rfl) ?_
    rcases Classical.em (p2 = 0) with c18_0 | c18_0
    · rw [if_pos c18_0] at hm
      refine lv_tableIn (off := 42) (tgt := 60) hx hb dX10_knot_18 (by rw [c18_0]; decide) (by rw [c18_0]; decide) (by rw [c18_0]; decide) (by decide) ?_
      refine lv_aload_n hx hb dX10_knot_60 rfl (lv_at hl 0 rfl) ?_
      refine va_get (D := G) (ci := 7) (v := .ref a_t_covers) (C := RX10) (T := TX10) (N := 13) hx hb hts i_X10 hown hK hP 0 rfl rfl 6 (by decide) l_49 (fun _ h9 => h9) rfl dX10_knot_61 ?_
      refine lv_iload_n hx hb dX10_knot_64 rfl (lv_at hl 1 rfl) ?_
      refine kcV0 (st1 := [.int (bI (mX2_isReached r14.2.2.2 p1))]) X hA (c_X2_isReached l G cI cZ cE a_t_covers r14.1 r14.2.1 r14.2.2.1 r14.2.2.2 p1 _ rfl) (cwV 1 hts gX10_knot_X2_isReached rfl rfl rfl hd_X2_isReached ⟨Nat.le_of_ble_eq_true rfl, Nat.le_of_ble_eq_true rfl⟩) 4 1 rfl rfl hl.1 dX10_knot_65 hP hD hS [4] rfl rfl rfl [] rfl (Nat.le_of_ble_eq_true rfl) rfl ⟨Nat.zero_le _, Nat.zero_le _⟩ (fun H locs hP hD hS => ?_)
      refine lv_if_eq (tgt := 75) hx hb dX10_knot_68 (by decide) (fun c68 => ?_) (fun c68 => ?_)
      · have c68 := kb0 c68
        rw [if_neg c68] at hm
        refine lv_iconst (v := 0) hx hb dX10_knot_75 (by decide) ?_
        have hm := Option.some.inj hm
        subst hm
        exact k_iret (v := 0) X rfl dX10_knot_76 hP hD hS
      · have c68 := kb1 c68
        rw [if_pos c68] at hm
        refine lv_iconst (v := 1) hx hb dX10_knot_71 (by decide) ?_
        refine lv_goto (tgt := 76) hx hb dX10_knot_72 (by decide) ?_
        have hm := Option.some.inj hm
        subst hm
        exact k_iret (v := 1) X rfl dX10_knot_76 hP hD hS
    rw [if_neg c18_0] at hm
    rcases Classical.em (p2 = 1) with c18_1 | c18_1
    · rw [if_pos c18_1] at hm
      refine lv_tableIn (off := 59) (tgt := 77) hx hb dX10_knot_18 (by rw [c18_1]; decide) (by rw [c18_1]; decide) (by rw [c18_1]; decide) (by decide) ?_
      refine lv_aload_n hx hb dX10_knot_77 rfl (lv_at hl 0 rfl) ?_
      refine va_get (D := G) (ci := 7) (v := .ref a_t_covers) (C := RX10) (T := TX10) (N := 13) hx hb hts i_X10 hown hK hP 0 rfl rfl 6 (by decide) l_49 (fun _ h9 => h9) rfl dX10_knot_78 ?_
      refine lv_iload_n hx hb dX10_knot_81 rfl (lv_at hl 1 rfl) ?_
      obtain ⟨r82, hc82, hm⟩ := kbind hm
      refine kcV0 (st1 := [.int r82]) X hA (c_X2_lidOf l G cI cZ cE a_t_covers r14.1 r14.2.1 r14.2.2.1 r14.2.2.2 p1 r82 hc82) (cwV 1 hts gX10_knot_X2_lidOf rfl rfl rfl hd_X2_lidOf ⟨Nat.le_of_ble_eq_true rfl, Nat.le_of_ble_eq_true rfl⟩) 4 1 rfl rfl hl.1 dX10_knot_82 hP hD hS [4] rfl rfl rfl [] rfl (Nat.le_of_ble_eq_true rfl) rfl ⟨Nat.zero_le _, Nat.zero_le _⟩ (fun H locs hP hD hS => ?_)
      have hm := Option.some.inj hm
      subst hm
      exact k_iret (v := r82) X rfl dX10_knot_85 hP hD hS
    rw [if_neg c18_1] at hm
    rcases Classical.em (p2 = 2) with c18_2 | c18_2
    · rw [if_pos c18_2] at hm
      refine lv_tableIn (off := 68) (tgt := 86) hx hb dX10_knot_18 (by rw [c18_2]; decide) (by rw [c18_2]; decide) (by rw [c18_2]; decide) (by decide) ?_
      refine lv_aload_n hx hb dX10_knot_86 rfl (lv_at hl 0 rfl) ?_
      refine va_get (D := G) (ci := 7) (v := .ref a_t_covers) (C := RX10) (T := TX10) (N := 13) hx hb hts i_X10 hown hK hP 0 rfl rfl 6 (by decide) l_49 (fun _ h9 => h9) rfl dX10_knot_87 ?_
      refine lv_iload_n hx hb dX10_knot_90 rfl (lv_at hl 1 rfl) ?_
      refine kcV0 (st1 := [.int (mX2_depthOf r14.2.2.1 r14.2.2.2 p1)]) X hA (c_X2_depthOf l G cI cZ cE a_t_covers r14.1 r14.2.1 r14.2.2.1 r14.2.2.2 p1 _ rfl) (cwV 1 hts gX10_knot_X2_depthOf rfl rfl rfl hd_X2_depthOf ⟨Nat.le_of_ble_eq_true rfl, Nat.le_of_ble_eq_true rfl⟩) 4 1 rfl rfl hl.1 dX10_knot_91 hP hD hS [4] rfl rfl rfl [] rfl (Nat.le_of_ble_eq_true rfl) rfl ⟨Nat.zero_le _, Nat.zero_le _⟩ (fun H locs hP hD hS => ?_)
      have hm := Option.some.inj hm
      subst hm
      exact k_iret (v := (mX2_depthOf r14.2.2.1 r14.2.2.2 p1)) X rfl dX10_knot_94 hP hD hS
    rw [if_neg c18_2] at hm
    rcases Classical.em (p2 = 3) with c18_3 | c18_3
    · rw [if_pos c18_3] at hm
      refine lv_tableIn (off := 77) (tgt := 95) hx hb dX10_knot_18 (by rw [c18_3]; decide) (by rw [c18_3]; decide) (by rw [c18_3]; decide) (by decide) ?_
      refine lv_aload_n hx hb dX10_knot_95 rfl (lv_at hl 0 rfl) ?_
      refine va_get (D := G) (ci := 7) (v := .ref a_t_walk) (C := RX10) (T := TX10) (N := 13) hx hb hts i_X10 hown hK hP 0 rfl rfl 8 (by decide) l_59 (fun _ h9 => h9) rfl dX10_knot_96 ?_
      refine lv_aload_n hx hb dX10_knot_99 rfl (lv_at hl 0 rfl) ?_
      refine va_get (D := G) (ci := 7) (v := .ref a_t_edges) (C := RX10) (T := TX10) (N := 13) hx hb hts i_X10 hown hK hP 0 rfl rfl 1 (by decide) l_19 (fun _ h9 => h9) rfl dX10_knot_100 ?_
      obtain ⟨r103, hc103, hm⟩ := kbind hm
      refine kcV (ws1 := [(a_t, .inr (7, [.ref a_t_text, .ref a_t_edges, .ref a_t_trial, .ref a_t_acts, .ref a_t_slots, .ref a_t_seen, .ref a_t_covers, .ref a_t_trialCovers, .ref a_t_walk, .ref a_t_least, .ref a_t_told, .int k_t_keptSlots, .long k_t_theSeed])), (a_t_edges, .inr (2, [.ref a_t_edges_row, .int k_t_edges_knots, .int k_t_edges_nextStamp])), (a_t_edges_row, .inr (3, [.ref a_t_edges_row_items, .int k_t_edges_row_size])), (a_t_edges_row_items, .inl (cI, 24, .inl f_t_edges_row_items)), (a_t_covers, .inr (1, [.long r14.1, .long r14.2.1, .long r14.2.2.1, .int r14.2.2.2])), (a_t_walk, .inr (6, [.ref a_t_walk_met, .ref a_t_walk_path, .long r103.1])), (a_t_walk_met, .inr (3, [.ref a_t_walk_met_items, .int r103.2.1])), (a_t_walk_met_items, .inl (cI, 8, .inl r103.2.2.1)), (a_t_walk_path, .inr (3, [.ref a_t_walk_path_items, .int r103.2.2.2.1])), (a_t_walk_path_items, .inl (cI, 8, .inl r103.2.2.2.2))]) (st1 := []) X hA (c_X9_go l G cI cZ cE a_t_walk a_t_walk_met a_t_walk_path a_t_walk_met_items a_t_walk_path_items a_t_edges a_t_edges_row a_t_edges_row_items k_t_walk_grid k_t_walk_met_size f_t_walk_met_items k_t_walk_path_size f_t_walk_path_items k_t_edges_knots k_t_edges_nextStamp k_t_edges_row_size f_t_edges_row_items r103 hc103) (cwV 1 hts gX10_knot_X9_go rfl rfl rfl hd_X9_go ⟨Nat.le_of_ble_eq_true rfl, Nat.le_of_ble_eq_true rfl⟩) 5 6 rfl rfl hl.1 dX10_knot_103 hP hD hS [5, 6, 7, 8, 9, 1, 2, 3] rfl rfl rfl rfl rfl [] rfl (Nat.le_of_ble_eq_true rfl) rfl ⟨Nat.zero_le _, Nat.zero_le _⟩ (fun H locs hP hD hS => ?_)
      refine lv_aload_n hx hb dX10_knot_106 rfl (lv_at hl 0 rfl) ?_
      refine va_get (D := G) (ci := 7) (v := .ref a_t_walk) (C := RX10) (T := TX10) (N := 13) hx hb hts i_X10 hown hK hP 0 rfl rfl 8 (by decide) l_59 (fun _ h9 => h9) rfl dX10_knot_107 ?_
      refine lv_iload_n hx hb dX10_knot_110 rfl (lv_at hl 1 rfl) ?_
      obtain ⟨r111, hc111, hm⟩ := kbind hm
      refine kcV0 (st1 := [.int r111]) X hA (c_X9_orderOf l G cI cZ cE a_t_walk a_t_walk_met a_t_walk_path a_t_walk_met_items r103.1 r103.2.1 r103.2.2.1 p1 r111 hc111) (cwV 1 hts gX10_knot_X9_orderOf rfl rfl rfl hd_X9_orderOf ⟨Nat.le_of_ble_eq_true rfl, Nat.le_of_ble_eq_true rfl⟩) 5 6 rfl rfl hl.1 dX10_knot_111 hP hD hS [5, 6, 7] rfl rfl rfl [] rfl (Nat.le_of_ble_eq_true rfl) rfl ⟨Nat.zero_le _, Nat.zero_le _⟩ (fun H locs hP hD hS => ?_)
      have hm := Option.some.inj hm
      subst hm
      exact k_iret (v := r111) X rfl dX10_knot_114 hP hD hS
    rw [if_neg c18_3] at hm
    rcases Classical.em (p2 = 4) with c18_4 | c18_4
    · rw [if_pos c18_4] at hm
      refine lv_tableIn (off := 97) (tgt := 115) hx hb dX10_knot_18 (by rw [c18_4]; decide) (by rw [c18_4]; decide) (by rw [c18_4]; decide) (by decide) ?_
      refine lv_aload_n hx hb dX10_knot_115 rfl (lv_at hl 0 rfl) ?_
      refine va_get (D := G) (ci := 7) (v := .ref a_t_walk) (C := RX10) (T := TX10) (N := 13) hx hb hts i_X10 hown hK hP 0 rfl rfl 8 (by decide) l_59 (fun _ h9 => h9) rfl dX10_knot_116 ?_
      refine lv_aload_n hx hb dX10_knot_119 rfl (lv_at hl 0 rfl) ?_
      refine va_get (D := G) (ci := 7) (v := .ref a_t_edges) (C := RX10) (T := TX10) (N := 13) hx hb hts i_X10 hown hK hP 0 rfl rfl 1 (by decide) l_19 (fun _ h9 => h9) rfl dX10_knot_120 ?_
      obtain ⟨r123, hc123, hm⟩ := kbind hm
      refine kcV (ws1 := [(a_t, .inr (7, [.ref a_t_text, .ref a_t_edges, .ref a_t_trial, .ref a_t_acts, .ref a_t_slots, .ref a_t_seen, .ref a_t_covers, .ref a_t_trialCovers, .ref a_t_walk, .ref a_t_least, .ref a_t_told, .int k_t_keptSlots, .long k_t_theSeed])), (a_t_edges, .inr (2, [.ref a_t_edges_row, .int k_t_edges_knots, .int k_t_edges_nextStamp])), (a_t_edges_row, .inr (3, [.ref a_t_edges_row_items, .int k_t_edges_row_size])), (a_t_edges_row_items, .inl (cI, 24, .inl f_t_edges_row_items)), (a_t_covers, .inr (1, [.long r14.1, .long r14.2.1, .long r14.2.2.1, .int r14.2.2.2])), (a_t_walk, .inr (6, [.ref a_t_walk_met, .ref a_t_walk_path, .long r123.1])), (a_t_walk_met, .inr (3, [.ref a_t_walk_met_items, .int r123.2.1])), (a_t_walk_met_items, .inl (cI, 8, .inl r123.2.2.1)), (a_t_walk_path, .inr (3, [.ref a_t_walk_path_items, .int r123.2.2.2.1])), (a_t_walk_path_items, .inl (cI, 8, .inl r123.2.2.2.2))]) (st1 := []) X hA (c_X9_go l G cI cZ cE a_t_walk a_t_walk_met a_t_walk_path a_t_walk_met_items a_t_walk_path_items a_t_edges a_t_edges_row a_t_edges_row_items k_t_walk_grid k_t_walk_met_size f_t_walk_met_items k_t_walk_path_size f_t_walk_path_items k_t_edges_knots k_t_edges_nextStamp k_t_edges_row_size f_t_edges_row_items r123 hc123) (cwV 1 hts gX10_knot_X9_go rfl rfl rfl hd_X9_go ⟨Nat.le_of_ble_eq_true rfl, Nat.le_of_ble_eq_true rfl⟩) 5 6 rfl rfl hl.1 dX10_knot_123 hP hD hS [5, 6, 7, 8, 9, 1, 2, 3] rfl rfl rfl rfl rfl [] rfl (Nat.le_of_ble_eq_true rfl) rfl ⟨Nat.zero_le _, Nat.zero_le _⟩ (fun H locs hP hD hS => ?_)
      refine lv_aload_n hx hb dX10_knot_126 rfl (lv_at hl 0 rfl) ?_
      refine va_get (D := G) (ci := 7) (v := .ref a_t_walk) (C := RX10) (T := TX10) (N := 13) hx hb hts i_X10 hown hK hP 0 rfl rfl 8 (by decide) l_59 (fun _ h9 => h9) rfl dX10_knot_127 ?_
      refine lv_iload_n hx hb dX10_knot_130 rfl (lv_at hl 1 rfl) ?_
      obtain ⟨r131, hc131, hm⟩ := kbind hm
      refine kcV0 (st1 := [.int r131]) X hA (c_X9_halfOf l G cI cZ cE a_t_walk a_t_walk_met a_t_walk_path a_t_walk_met_items r123.1 r123.2.1 r123.2.2.1 p1 r131 hc131) (cwV 1 hts gX10_knot_X9_halfOf rfl rfl rfl hd_X9_halfOf ⟨Nat.le_of_ble_eq_true rfl, Nat.le_of_ble_eq_true rfl⟩) 5 6 rfl rfl hl.1 dX10_knot_131 hP hD hS [5, 6, 7] rfl rfl rfl [] rfl (Nat.le_of_ble_eq_true rfl) rfl ⟨Nat.zero_le _, Nat.zero_le _⟩ (fun H locs hP hD hS => ?_)
      have hm := Option.some.inj hm
      subst hm
      exact k_iret (v := r131) X rfl dX10_knot_134 hP hD hS
    rw [if_neg c18_4] at hm
    rcases Classical.em (p2 = 5) with c18_5 | c18_5
    · rw [if_pos c18_5] at hm
      refine lv_tableIn (off := 117) (tgt := 135) hx hb dX10_knot_18 (by rw [c18_5]; decide) (by rw [c18_5]; decide) (by rw [c18_5]; decide) (by decide) ?_
      refine lv_aload_n hx hb dX10_knot_135 rfl (lv_at hl 0 rfl) ?_
      refine va_get (D := G) (ci := 7) (v := .ref a_t_covers) (C := RX10) (T := TX10) (N := 13) hx hb hts i_X10 hown hK hP 0 rfl rfl 6 (by decide) l_49 (fun _ h9 => h9) rfl dX10_knot_136 ?_
      refine lv_iload_n hx hb dX10_knot_139 rfl (lv_at hl 1 rfl) ?_
      refine kcV0 (st1 := [.int (mX2_coveredBy r14.2.1 p1)]) X hA (c_X2_coveredBy l G cI cZ cE a_t_covers r14.1 r14.2.1 r14.2.2.1 r14.2.2.2 p1 _ rfl) (cwV 1 hts gX10_knot_X2_coveredBy rfl rfl rfl hd_X2_coveredBy ⟨Nat.le_of_ble_eq_true rfl, Nat.le_of_ble_eq_true rfl⟩) 4 1 rfl rfl hl.1 dX10_knot_140 hP hD hS [4] rfl rfl rfl [] rfl (Nat.le_of_ble_eq_true rfl) rfl ⟨Nat.zero_le _, Nat.zero_le _⟩ (fun H locs hP hD hS => ?_)
      have hm := Option.some.inj hm
      subst hm
      exact k_iret (v := (mX2_coveredBy r14.2.1 p1)) X rfl dX10_knot_143 hP hD hS
    rw [if_neg c18_5] at hm
    rcases Classical.em (p2 = 6) with c18_6 | c18_6
    · rw [if_pos c18_6] at hm
      refine lv_tableIn (off := 126) (tgt := 144) hx hb dX10_knot_18 (by rw [c18_6]; decide) (by rw [c18_6]; decide) (by rw [c18_6]; decide) (by decide) ?_
      refine lv_aload_n hx hb dX10_knot_144 rfl (lv_at hl 0 rfl) ?_
      refine va_get (D := G) (ci := 7) (v := .ref a_t_covers) (C := RX10) (T := TX10) (N := 13) hx hb hts i_X10 hown hK hP 0 rfl rfl 6 (by decide) l_49 (fun _ h9 => h9) rfl dX10_knot_145 ?_
      refine lv_iload_n hx hb dX10_knot_148 rfl (lv_at hl 1 rfl) ?_
      obtain ⟨r149, hc149, hm⟩ := kbind hm
      refine kcV0 (st1 := [.int r149]) X hA (c_X2_rimOf l G cI cZ cE a_t_covers r14.1 r14.2.1 r14.2.2.1 r14.2.2.2 p1 r149 hc149) (cwV 1 hts gX10_knot_X2_rimOf rfl rfl rfl hd_X2_rimOf ⟨Nat.le_of_ble_eq_true rfl, Nat.le_of_ble_eq_true rfl⟩) 4 1 rfl rfl hl.1 dX10_knot_149 hP hD hS [4] rfl rfl rfl [] rfl (Nat.le_of_ble_eq_true rfl) rfl ⟨Nat.zero_le _, Nat.zero_le _⟩ (fun H locs hP hD hS => ?_)
      have hm := Option.some.inj hm
      subst hm
      exact k_iret (v := r149) X rfl dX10_knot_152 hP hD hS
    rw [if_neg c18_6] at hm
    refine k_tableDef (tgt := 153) hx hb dX10_knot_18 (by
      have z0 : Int32.toInt p2 ≠ 0 := fun h => c18_0 (Int32.toInt_inj.mp (h.trans (by decide)))
      have z1 : Int32.toInt p2 ≠ 1 := fun h => c18_1 (Int32.toInt_inj.mp (h.trans (by decide)))
      have z2 : Int32.toInt p2 ≠ 2 := fun h => c18_2 (Int32.toInt_inj.mp (h.trans (by decide)))
      have z3 : Int32.toInt p2 ≠ 3 := fun h => c18_3 (Int32.toInt_inj.mp (h.trans (by decide)))
      have z4 : Int32.toInt p2 ≠ 4 := fun h => c18_4 (Int32.toInt_inj.mp (h.trans (by decide)))
      have z5 : Int32.toInt p2 ≠ 5 := fun h => c18_5 (Int32.toInt_inj.mp (h.trans (by decide)))
      have z6 : Int32.toInt p2 ≠ 6 := fun h => c18_6 (Int32.toInt_inj.mp (h.trans (by decide)))
      rcases (show Int32.toInt p2 < 0 ∨ 6 < Int32.toInt p2 by omega) with h | h
      · exact Or.inl h
      · exact Or.inr (Or.inl h)) (by decide) ?_
    refine lv_bipush (v := (-2)) hx hb dX10_knot_153 (by decide) ?_
    have hm := Option.some.inj hm
    subst hm
    exact k_iret (v := (-2)) X rfl dX10_knot_155 hP hD hS
  · have c8 := kb0 c8
    rw [if_neg c8] at hm
    refine lv_iconst (v := (-1)) hx hb dX10_knot_11 (by decide) ?_
    have hm := Option.some.inj hm
    subst hm
    exact k_iret (v := (-1)) X rfl dX10_knot_12 hP hD hS
theorem hd_X10_knot : yX10_knot.cls = RX10 ∧ yX10_knot.cls ≠ "java/lang/invoke/MethodHandle" ∧ yX10_knot.cls ≠ "java/lang/invoke/VarHandle" ∧ (parseMethodDescriptor yX10_knot.desc).map (fun d => d.parameters.length) = some 2 := by decide +kernel
/-! CoverOrder nearest -/
set_option maxRecDepth 100000 in
set_option maxHeartbeats 4000000 in
theorem c_X10_nearest (l : Launch) (G : va_G) (cI cZ cE : ClassId) (a_t a_t_text a_t_edges a_t_trial a_t_acts a_t_slots a_t_seen a_t_covers a_t_trialCovers a_t_walk a_t_least a_t_told a_t_edges_row a_t_edges_row_items : Nat) (k_t_keptSlots : Int32) (k_t_theSeed : Int64) (k_t_edges_knots : Int32) (k_t_edges_nextStamp : Int32) (k_t_edges_row_size : Int32) (f_t_edges_row_items : Nat → Int32) (k_t_covers_grid : Int64) (k_t_covers_covered : Int64) (k_t_covers_coverers : Int64) (k_t_covers_reached : Int32) (p1 : Int32) (p2 : Int32) (R : Int32 × Int64 × Int64 × Int64 × Int32) (hm : mX10_nearest k_t_edges_knots k_t_edges_row_size f_t_edges_row_items k_t_covers_grid k_t_covers_covered k_t_covers_coverers k_t_covers_reached p1 p2 = some R) : kM l yX10_nearest wsX10_nearest { frames := 5, cells := 0, slots := 0, locals := 114 } G cI cZ cE [.ref a_t, .int p1, .int p2] [(a_t, .inr (7, [.ref a_t_text, .ref a_t_edges, .ref a_t_trial, .ref a_t_acts, .ref a_t_slots, .ref a_t_seen, .ref a_t_covers, .ref a_t_trialCovers, .ref a_t_walk, .ref a_t_least, .ref a_t_told, .int k_t_keptSlots, .long k_t_theSeed])), (a_t_edges, .inr (2, [.ref a_t_edges_row, .int k_t_edges_knots, .int k_t_edges_nextStamp])), (a_t_edges_row, .inr (3, [.ref a_t_edges_row_items, .int k_t_edges_row_size])), (a_t_edges_row_items, .inl (cI, 24, .inl f_t_edges_row_items)), (a_t_covers, .inr (1, [.long k_t_covers_grid, .long k_t_covers_covered, .long k_t_covers_coverers, .int k_t_covers_reached]))] [(a_t, .inr (7, [.ref a_t_text, .ref a_t_edges, .ref a_t_trial, .ref a_t_acts, .ref a_t_slots, .ref a_t_seen, .ref a_t_covers, .ref a_t_trialCovers, .ref a_t_walk, .ref a_t_least, .ref a_t_told, .int k_t_keptSlots, .long k_t_theSeed])), (a_t_edges, .inr (2, [.ref a_t_edges_row, .int k_t_edges_knots, .int k_t_edges_nextStamp])), (a_t_edges_row, .inr (3, [.ref a_t_edges_row_items, .int k_t_edges_row_size])), (a_t_edges_row_items, .inl (cI, 24, .inl f_t_edges_row_items)), (a_t_covers, .inr (1, [.long R.2.1, .long R.2.2.1, .long R.2.2.2.1, .int R.2.2.2.2]))] (some (.int R.1)) := by
  refine kM_of cX10_nearest 3 (some .int) RX10 (by decide) rfl rfl (Nat.le_of_ble_eq_true rfl) ?_
  intro p e s m below meth c A ls X hA hP hD hS hl
  have hx := X.1.1
  have hb := X.1.2.1
  have hts := X.1.2.2.2.2
  have hown := X.1.2.2.2.1
  have hK := X.2.2.2.1
  have l_19 : (.fieldLink RX10 19 "CoverOrder" "edges" "LCoverOrder$Edges;" : Cond).before _ s = true := hts _ (List.mem_of_getElem? (i := 1) (by decide +kernel))
  have i_X10 : ∀ w ∈ u_ws RX10 TX10 13, w ∈ wsX10_nearest := k_in _ [100, 101, 102, 103, 104, 105, 106, 107, 108, 109, 110, 111, 112] (by decide +kernel)
  have l_49 : (.fieldLink RX10 49 "CoverOrder" "covers" "LCoverOrder$Covers;" : Cond).before _ s = true := hts _ (List.mem_of_getElem? (i := 2) (by decide +kernel))
  have hl : lv_has ls 3 [(0, .ref a_t), (1, .int p1), (2, .int p2)] := hl
  rw [mX10_nearest] at hm
  refine lv_aload_n hx hb dX10_nearest_0 rfl (lv_at hl 0 rfl) ?_
  refine va_get (D := G) (ci := 7) (v := .ref a_t_edges) (C := RX10) (T := TX10) (N := 13) hx hb hts i_X10 hown hK hP 0 rfl rfl 1 (by decide) l_19 (fun _ h9 => h9) rfl dX10_nearest_1 ?_
  refine lv_iload_n hx hb dX10_nearest_4 rfl (lv_at hl 1 rfl) ?_
  refine lv_iload_n hx hb dX10_nearest_5 rfl (lv_at hl 2 rfl) ?_
  refine kcV0 (st1 := [.int (bI (mX3_areKnots k_t_edges_knots p1 p2))]) X hA (c_X3_areKnots l G cI cZ cE a_t_edges a_t_edges_row k_t_edges_knots k_t_edges_nextStamp p1 p2 _ rfl) (cwV 2 hts gX10_nearest_X3_areKnots rfl rfl rfl hd_X3_areKnots ⟨Nat.le_of_ble_eq_true rfl, Nat.le_of_ble_eq_true rfl⟩) 1 2 rfl rfl hl.1 dX10_nearest_6 hP hD hS [1] rfl rfl rfl [] rfl (Nat.le_of_ble_eq_true rfl) rfl ⟨Nat.zero_le _, Nat.zero_le _⟩ (fun H locs hP hD hS => ?_)
  refine lv_if_ne (tgt := 14) hx hb dX10_nearest_9 (by decide) (fun c9 => ?_) (fun c9 => ?_)
  · have c9 := kb1 c9
    rw [if_pos c9] at hm
    refine lv_aload_n hx hb dX10_nearest_14 rfl (lv_at hl 0 rfl) ?_
    obtain ⟨r15, hc15, hm⟩ := kbind hm
    refine kcV (ws1 := [(a_t, .inr (7, [.ref a_t_text, .ref a_t_edges, .ref a_t_trial, .ref a_t_acts, .ref a_t_slots, .ref a_t_seen, .ref a_t_covers, .ref a_t_trialCovers, .ref a_t_walk, .ref a_t_least, .ref a_t_told, .int k_t_keptSlots, .long k_t_theSeed])), (a_t_edges, .inr (2, [.ref a_t_edges_row, .int k_t_edges_knots, .int k_t_edges_nextStamp])), (a_t_edges_row, .inr (3, [.ref a_t_edges_row_items, .int k_t_edges_row_size])), (a_t_edges_row_items, .inl (cI, 24, .inl f_t_edges_row_items)), (a_t_covers, .inr (1, [.long r15.1, .long r15.2.1, .long r15.2.2.1, .int r15.2.2.2]))]) (st1 := []) X hA (c_X10_learnCovers l G cI cZ cE a_t a_t_text a_t_edges a_t_trial a_t_acts a_t_slots a_t_seen a_t_covers a_t_trialCovers a_t_walk a_t_least a_t_told a_t_edges_row a_t_edges_row_items k_t_keptSlots k_t_theSeed k_t_edges_knots k_t_edges_nextStamp k_t_edges_row_size f_t_edges_row_items k_t_covers_grid k_t_covers_covered k_t_covers_coverers k_t_covers_reached r15 hc15) (cwV 0 hts gX10_nearest_X10_learnCovers rfl rfl rfl hd_X10_learnCovers ⟨Nat.le_of_ble_eq_true rfl, Nat.le_of_ble_eq_true rfl⟩) 0 7 rfl rfl hl.1 dX10_nearest_15 hP hD hS [0, 1, 2, 3, 4] rfl rfl rfl rfl rfl [] rfl (Nat.le_of_ble_eq_true rfl) rfl ⟨Nat.zero_le _, Nat.zero_le _⟩ (fun H locs hP hD hS => ?_)
    refine lv_aload_n hx hb dX10_nearest_18 rfl (lv_at hl 0 rfl) ?_
    refine va_get (D := G) (ci := 7) (v := .ref a_t_covers) (C := RX10) (T := TX10) (N := 13) hx hb hts i_X10 hown hK hP 0 rfl rfl 6 (by decide) l_49 (fun _ h9 => h9) rfl dX10_nearest_19 ?_
    refine lv_iload_n hx hb dX10_nearest_22 rfl (lv_at hl 1 rfl) ?_
    refine kcV0 (st1 := [.int (bI (mX2_isReached r15.2.2.2 p1))]) X hA (c_X2_isReached l G cI cZ cE a_t_covers r15.1 r15.2.1 r15.2.2.1 r15.2.2.2 p1 _ rfl) (cwV 1 hts gX10_nearest_X2_isReached rfl rfl rfl hd_X2_isReached ⟨Nat.le_of_ble_eq_true rfl, Nat.le_of_ble_eq_true rfl⟩) 4 1 rfl rfl hl.1 dX10_nearest_23 hP hD hS [4] rfl rfl rfl [] rfl (Nat.le_of_ble_eq_true rfl) rfl ⟨Nat.zero_le _, Nat.zero_le _⟩ (fun H locs hP hD hS => ?_)
    refine lv_if_eq (tgt := 40) hx hb dX10_nearest_26 (by decide) (fun c26 => ?_) (fun c26 => ?_)
    · have c26 := kb0 c26
      rw [if_neg c26] at hm
      refine lv_bipush (v := (-3)) hx hb dX10_nearest_40 (by decide) ?_
      have hm := Option.some.inj hm
      subst hm
      exact k_iret (v := (-3)) X rfl dX10_nearest_42 hP hD hS
    · have c26 := kb1 c26
      rw [if_pos c26] at hm
      refine lv_aload_n hx hb dX10_nearest_29 rfl (lv_at hl 0 rfl) ?_
      refine va_get (D := G) (ci := 7) (v := .ref a_t_covers) (C := RX10) (T := TX10) (N := 13) hx hb hts i_X10 hown hK hP 0 rfl rfl 6 (by decide) l_49 (fun _ h9 => h9) rfl dX10_nearest_30 ?_
      refine lv_iload_n hx hb dX10_nearest_33 rfl (lv_at hl 2 rfl) ?_
      refine kcV0 (st1 := [.int (bI (mX2_isReached r15.2.2.2 p2))]) X hA (c_X2_isReached l G cI cZ cE a_t_covers r15.1 r15.2.1 r15.2.2.1 r15.2.2.2 p2 _ rfl) (cwV 1 hts gX10_nearest_X2_isReached rfl rfl rfl hd_X2_isReached ⟨Nat.le_of_ble_eq_true rfl, Nat.le_of_ble_eq_true rfl⟩) 4 1 rfl rfl hl.1 dX10_nearest_34 hP hD hS [4] rfl rfl rfl [] rfl (Nat.le_of_ble_eq_true rfl) rfl ⟨Nat.zero_le _, Nat.zero_le _⟩ (fun H locs hP hD hS => ?_)
      refine lv_if_ne (tgt := 43) hx hb dX10_nearest_37 (by decide) (fun c37 => ?_) (fun c37 => ?_)
      · have c37 := kb1 c37
        rw [if_pos c37] at hm
        refine lv_aload_n hx hb dX10_nearest_43 rfl (lv_at hl 0 rfl) ?_
        refine va_get (D := G) (ci := 7) (v := .ref a_t_covers) (C := RX10) (T := TX10) (N := 13) hx hb hts i_X10 hown hK hP 0 rfl rfl 6 (by decide) l_49 (fun _ h9 => h9) rfl dX10_nearest_44 ?_
        refine lv_aload_n hx hb dX10_nearest_47 rfl (lv_at hl 0 rfl) ?_
        refine va_get (D := G) (ci := 7) (v := .ref a_t_covers) (C := RX10) (T := TX10) (N := 13) hx hb hts i_X10 hown hK hP 0 rfl rfl 6 (by decide) l_49 (fun _ h9 => h9) rfl dX10_nearest_48 ?_
        refine lv_iload_n hx hb dX10_nearest_51 rfl (lv_at hl 1 rfl) ?_
        refine kcV0 (st1 := [.int (mX2_coverersOf r15.2.2.1 p1), .ref a_t_covers]) X hA (c_X2_coverersOf l G cI cZ cE a_t_covers r15.1 r15.2.1 r15.2.2.1 r15.2.2.2 p1 _ rfl) (cwV 1 hts gX10_nearest_X2_coverersOf rfl rfl rfl hd_X2_coverersOf ⟨Nat.le_of_ble_eq_true rfl, Nat.le_of_ble_eq_true rfl⟩) 4 1 rfl rfl hl.1 dX10_nearest_52 hP hD hS [4] rfl rfl rfl [.ref a_t_covers] rfl (Nat.le_of_ble_eq_true rfl) rfl ⟨Nat.zero_le _, Nat.zero_le _⟩ (fun H locs hP hD hS => ?_)
        refine lv_aload_n hx hb dX10_nearest_55 rfl (lv_at hl 0 rfl) ?_
        refine va_get (D := G) (ci := 7) (v := .ref a_t_covers) (C := RX10) (T := TX10) (N := 13) hx hb hts i_X10 hown hK hP 0 rfl rfl 6 (by decide) l_49 (fun _ h9 => h9) rfl dX10_nearest_56 ?_
        refine lv_iload_n hx hb dX10_nearest_59 rfl (lv_at hl 2 rfl) ?_
        refine kcV0 (st1 := [.int (mX2_coverersOf r15.2.2.1 p2), .int (mX2_coverersOf r15.2.2.1 p1), .ref a_t_covers]) X hA (c_X2_coverersOf l G cI cZ cE a_t_covers r15.1 r15.2.1 r15.2.2.1 r15.2.2.2 p2 _ rfl) (cwV 1 hts gX10_nearest_X2_coverersOf rfl rfl rfl hd_X2_coverersOf ⟨Nat.le_of_ble_eq_true rfl, Nat.le_of_ble_eq_true rfl⟩) 4 1 rfl rfl hl.1 dX10_nearest_60 hP hD hS [4] rfl rfl rfl [.int (mX2_coverersOf r15.2.2.1 p1), .ref a_t_covers] rfl (Nat.le_of_ble_eq_true rfl) rfl ⟨Nat.zero_le _, Nat.zero_le _⟩ (fun H locs hP hD hS => ?_)
        refine lv_iand hx hb dX10_nearest_63 ?_
        obtain ⟨r64, hc64, hm⟩ := kbind hm
        refine kcV0 (st1 := [.int r64]) X hA (c_X2_coveredByJust l G cI cZ cE a_t_covers r15.1 r15.2.1 r15.2.2.1 r15.2.2.2 ((mX2_coverersOf r15.2.2.1 p1) &&& (mX2_coverersOf r15.2.2.1 p2)) r64 hc64) (cwV 1 hts gX10_nearest_X2_coveredByJust rfl rfl rfl hd_X2_coveredByJust ⟨Nat.le_of_ble_eq_true rfl, Nat.le_of_ble_eq_true rfl⟩) 4 1 rfl rfl hl.1 dX10_nearest_64 hP hD hS [4] rfl rfl rfl [] rfl (Nat.le_of_ble_eq_true rfl) rfl ⟨Nat.zero_le _, Nat.zero_le _⟩ (fun H locs hP hD hS => ?_)
        have hm := Option.some.inj hm
        subst hm
        exact k_iret (v := r64) X rfl dX10_nearest_67 hP hD hS
      · have c37 := kb0 c37
        rw [if_neg c37] at hm
        refine lv_bipush (v := (-3)) hx hb dX10_nearest_40 (by decide) ?_
        have hm := Option.some.inj hm
        subst hm
        exact k_iret (v := (-3)) X rfl dX10_nearest_42 hP hD hS
  · have c9 := kb0 c9
    rw [if_neg c9] at hm
    refine lv_iconst (v := (-1)) hx hb dX10_nearest_12 (by decide) ?_
    have hm := Option.some.inj hm
    subst hm
    exact k_iret (v := (-1)) X rfl dX10_nearest_13 hP hD hS
theorem hd_X10_nearest : yX10_nearest.cls = RX10 ∧ yX10_nearest.cls ≠ "java/lang/invoke/MethodHandle" ∧ yX10_nearest.cls ≠ "java/lang/invoke/VarHandle" ∧ (parseMethodDescriptor yX10_nearest.desc).map (fun d => d.parameters.length) = some 2 := by decide +kernel
/-! CoverOrder would -/
set_option maxRecDepth 100000 in
set_option maxHeartbeats 4000000 in
theorem c_X10_would (l : Launch) (G : va_G) (cI cZ cE : ClassId) (a_t a_t_text a_t_edges a_t_trial a_t_acts a_t_slots a_t_seen a_t_covers a_t_trialCovers a_t_walk a_t_least a_t_told a_t_edges_row a_t_edges_row_items : Nat) (k_t_keptSlots : Int32) (k_t_theSeed : Int64) (k_t_edges_knots : Int32) (k_t_edges_nextStamp : Int32) (k_t_edges_row_size : Int32) (f_t_edges_row_items : Nat → Int32) (k_t_covers_grid : Int64) (k_t_covers_covered : Int64) (k_t_covers_coverers : Int64) (k_t_covers_reached : Int32) (k_t_trialCovers_grid : Int64) (k_t_trialCovers_covered : Int64) (k_t_trialCovers_coverers : Int64) (k_t_trialCovers_reached : Int32) (p1 : Int32) (p2 : Int32) (R : Int32 × Int64 × Int64 × Int64 × Int32 × Int64 × Int64 × Int64 × Int32) (hm : mX10_would k_t_edges_knots k_t_edges_row_size f_t_edges_row_items k_t_covers_grid k_t_covers_covered k_t_covers_coverers k_t_covers_reached k_t_trialCovers_grid k_t_trialCovers_covered k_t_trialCovers_coverers k_t_trialCovers_reached p1 p2 = some R) : kM l yX10_would wsX10_would { frames := 5, cells := 0, slots := 0, locals := 114 } G cI cZ cE [.ref a_t, .int p1, .int p2] [(a_t, .inr (7, [.ref a_t_text, .ref a_t_edges, .ref a_t_trial, .ref a_t_acts, .ref a_t_slots, .ref a_t_seen, .ref a_t_covers, .ref a_t_trialCovers, .ref a_t_walk, .ref a_t_least, .ref a_t_told, .int k_t_keptSlots, .long k_t_theSeed])), (a_t_edges, .inr (2, [.ref a_t_edges_row, .int k_t_edges_knots, .int k_t_edges_nextStamp])), (a_t_edges_row, .inr (3, [.ref a_t_edges_row_items, .int k_t_edges_row_size])), (a_t_edges_row_items, .inl (cI, 24, .inl f_t_edges_row_items)), (a_t_covers, .inr (1, [.long k_t_covers_grid, .long k_t_covers_covered, .long k_t_covers_coverers, .int k_t_covers_reached])), (a_t_trialCovers, .inr (1, [.long k_t_trialCovers_grid, .long k_t_trialCovers_covered, .long k_t_trialCovers_coverers, .int k_t_trialCovers_reached]))] [(a_t, .inr (7, [.ref a_t_text, .ref a_t_edges, .ref a_t_trial, .ref a_t_acts, .ref a_t_slots, .ref a_t_seen, .ref a_t_covers, .ref a_t_trialCovers, .ref a_t_walk, .ref a_t_least, .ref a_t_told, .int k_t_keptSlots, .long k_t_theSeed])), (a_t_edges, .inr (2, [.ref a_t_edges_row, .int k_t_edges_knots, .int k_t_edges_nextStamp])), (a_t_edges_row, .inr (3, [.ref a_t_edges_row_items, .int k_t_edges_row_size])), (a_t_edges_row_items, .inl (cI, 24, .inl f_t_edges_row_items)), (a_t_covers, .inr (1, [.long R.2.1, .long R.2.2.1, .long R.2.2.2.1, .int R.2.2.2.2.1])), (a_t_trialCovers, .inr (1, [.long R.2.2.2.2.2.1, .long R.2.2.2.2.2.2.1, .long R.2.2.2.2.2.2.2.1, .int R.2.2.2.2.2.2.2.2]))] (some (.int R.1)) := by
  refine kM_of cX10_would 3 (some .int) RX10 (by decide) rfl rfl (Nat.le_of_ble_eq_true rfl) ?_
  intro p e s m below meth c A ls X hA hP hD hS hl
  have hx := X.1.1
  have hb := X.1.2.1
  have hts := X.1.2.2.2.2
  have hown := X.1.2.2.2.1
  have hK := X.2.2.2.1
  have l_19 : (.fieldLink RX10 19 "CoverOrder" "edges" "LCoverOrder$Edges;" : Cond).before _ s = true := hts _ (List.mem_of_getElem? (i := 1) (by decide +kernel))
  have i_X10 : ∀ w ∈ u_ws RX10 TX10 13, w ∈ wsX10_would := k_in _ [128, 129, 130, 131, 132, 133, 134, 135, 136, 137, 138, 139, 140] (by decide +kernel)
  have l_53 : (.fieldLink RX10 53 "CoverOrder" "trialCovers" "LCoverOrder$Covers;" : Cond).before _ s = true := hts _ (List.mem_of_getElem? (i := 2) (by decide +kernel))
  have l_49 : (.fieldLink RX10 49 "CoverOrder" "covers" "LCoverOrder$Covers;" : Cond).before _ s = true := hts _ (List.mem_of_getElem? (i := 3) (by decide +kernel))
  have hl : lv_has ls 3 [(0, .ref a_t), (1, .int p1), (2, .int p2)] := hl
  rw [mX10_would] at hm
  refine lv_aload_n hx hb dX10_would_0 rfl (lv_at hl 0 rfl) ?_
  refine va_get (D := G) (ci := 7) (v := .ref a_t_edges) (C := RX10) (T := TX10) (N := 13) hx hb hts i_X10 hown hK hP 0 rfl rfl 1 (by decide) l_19 (fun _ h9 => h9) rfl dX10_would_1 ?_
  refine lv_iload_n hx hb dX10_would_4 rfl (lv_at hl 1 rfl) ?_
  refine lv_iload_n hx hb dX10_would_5 rfl (lv_at hl 2 rfl) ?_
  refine kcV0 (st1 := [.int (bI (mX3_areKnots k_t_edges_knots p1 p2))]) X hA (c_X3_areKnots l G cI cZ cE a_t_edges a_t_edges_row k_t_edges_knots k_t_edges_nextStamp p1 p2 _ rfl) (cwV 2 hts gX10_would_X3_areKnots rfl rfl rfl hd_X3_areKnots ⟨Nat.le_of_ble_eq_true rfl, Nat.le_of_ble_eq_true rfl⟩) 1 2 rfl rfl hl.1 dX10_would_6 hP hD hS [1] rfl rfl rfl [] rfl (Nat.le_of_ble_eq_true rfl) rfl ⟨Nat.zero_le _, Nat.zero_le _⟩ (fun H locs hP hD hS => ?_)
  refine lv_if_ne (tgt := 14) hx hb dX10_would_9 (by decide) (fun c9 => ?_) (fun c9 => ?_)
  · have c9 := kb1 c9
    rw [if_pos c9] at hm
    refine lv_iload_n hx hb dX10_would_14 rfl (lv_at hl 1 rfl) ?_
    refine lv_iload_n hx hb dX10_would_15 rfl (lv_at hl 2 rfl) ?_
    refine lv_icmp_ne (tgt := 22) hx hb dX10_would_16 (by decide) (fun c16 => ?_) (fun c16 => ?_)
    · rw [if_neg c16] at hm
      refine lv_aload_n hx hb dX10_would_22 rfl (lv_at hl 0 rfl) ?_
      refine va_get (D := G) (ci := 7) (v := .ref a_t_edges) (C := RX10) (T := TX10) (N := 13) hx hb hts i_X10 hown hK hP 0 rfl rfl 1 (by decide) l_19 (fun _ h9 => h9) rfl dX10_would_23 ?_
      refine lv_iload_n hx hb dX10_would_26 rfl (lv_at hl 1 rfl) ?_
      refine lv_iload_n hx hb dX10_would_27 rfl (lv_at hl 2 rfl) ?_
      obtain ⟨r28, hc28, hm⟩ := kbind hm
      refine kcV0 (st1 := [.int (bI r28)]) X hA (c_X3_has l G cI cZ cE a_t_edges a_t_edges_row a_t_edges_row_items k_t_edges_knots k_t_edges_nextStamp k_t_edges_row_size f_t_edges_row_items p1 p2 r28 hc28) (cwV 2 hts gX10_would_X3_has rfl rfl rfl hd_X3_has ⟨Nat.le_of_ble_eq_true rfl, Nat.le_of_ble_eq_true rfl⟩) 1 2 rfl rfl hl.1 dX10_would_28 hP hD hS [1, 2, 3] rfl rfl rfl [] rfl (Nat.le_of_ble_eq_true rfl) rfl ⟨Nat.zero_le _, Nat.zero_le _⟩ (fun H locs hP hD hS => ?_)
      have h47 : ∀ (H : Heap) (locs : List Loc) (ls : Array Slot), va_P G vwCl [(a_t, .inr (7, [.ref a_t_text, .ref a_t_edges, .ref a_t_trial, .ref a_t_acts, .ref a_t_slots, .ref a_t_seen, .ref a_t_covers, .ref a_t_trialCovers, .ref a_t_walk, .ref a_t_least, .ref a_t_told, .int k_t_keptSlots, .long k_t_theSeed])), (a_t_edges, .inr (2, [.ref a_t_edges_row, .int k_t_edges_knots, .int k_t_edges_nextStamp])), (a_t_edges_row, .inr (3, [.ref a_t_edges_row_items, .int k_t_edges_row_size])), (a_t_edges_row_items, .inl (cI, 24, .inl f_t_edges_row_items)), (a_t_covers, .inr (1, [.long k_t_covers_grid, .long k_t_covers_covered, .long k_t_covers_coverers, .int k_t_covers_reached])), (a_t_trialCovers, .inr (1, [.long k_t_trialCovers_grid, .long k_t_trialCovers_covered, .long k_t_trialCovers_coverers, .int k_t_trialCovers_reached]))] H → va_D A [(a_t, .inr (7, [.ref a_t_text, .ref a_t_edges, .ref a_t_trial, .ref a_t_acts, .ref a_t_slots, .ref a_t_seen, .ref a_t_covers, .ref a_t_trialCovers, .ref a_t_walk, .ref a_t_least, .ref a_t_told, .int k_t_keptSlots, .long k_t_theSeed])), (a_t_edges, .inr (2, [.ref a_t_edges_row, .int k_t_edges_knots, .int k_t_edges_nextStamp])), (a_t_edges_row, .inr (3, [.ref a_t_edges_row_items, .int k_t_edges_row_size])), (a_t_edges_row_items, .inl (cI, 24, .inl f_t_edges_row_items)), (a_t_covers, .inr (1, [.long k_t_covers_grid, .long k_t_covers_covered, .long k_t_covers_coverers, .int k_t_covers_reached])), (a_t_trialCovers, .inr (1, [.long k_t_trialCovers_grid, .long k_t_trialCovers_covered, .long k_t_trialCovers_coverers, .int k_t_trialCovers_reached]))] → va_S A s.heap H locs → lv_has ls 3 [(0, .ref a_t), (1, .int p1), (2, .int p2)] → mX10_would_J47 k_t_edges_row_size f_t_edges_row_items k_t_covers_grid k_t_covers_covered k_t_covers_coverers k_t_covers_reached k_t_trialCovers_grid k_t_trialCovers_covered k_t_trialCovers_coverers k_t_trialCovers_reached p1 p2 = some R → W p l e { frames := 5, cells := 0, slots := 0, locals := 114 } s m ([.ref a_t, .int p1, .int p2] : List Value).toArray below meth c H locs 0 0 (kQ below G [(a_t, .inr (7, [.ref a_t_text, .ref a_t_edges, .ref a_t_trial, .ref a_t_acts, .ref a_t_slots, .ref a_t_seen, .ref a_t_covers, .ref a_t_trialCovers, .ref a_t_walk, .ref a_t_least, .ref a_t_told, .int k_t_keptSlots, .long k_t_theSeed])), (a_t_edges, .inr (2, [.ref a_t_edges_row, .int k_t_edges_knots, .int k_t_edges_nextStamp])), (a_t_edges_row, .inr (3, [.ref a_t_edges_row_items, .int k_t_edges_row_size])), (a_t_edges_row_items, .inl (cI, 24, .inl f_t_edges_row_items)), (a_t_covers, .inr (1, [.long R.2.1, .long R.2.2.1, .long R.2.2.2.1, .int R.2.2.2.2.1])), (a_t_trialCovers, .inr (1, [.long R.2.2.2.2.2.1, .long R.2.2.2.2.2.2.1, .long R.2.2.2.2.2.2.2.1, .int R.2.2.2.2.2.2.2.2]))] (some (.int R.1)) A ([.ref a_t, .int p1, .int p2] : List Value).toArray s) (F0 m 47 ls []) := by
        intro H locs ls hP hD hS hl hm
        rw [mX10_would_J47] at hm
        refine lv_aload_n hx hb dX10_would_47 rfl (lv_at hl 0 rfl) ?_
        obtain ⟨r48, hc48, hm⟩ := kbind hm
        refine kcV (ws1 := [(a_t, .inr (7, [.ref a_t_text, .ref a_t_edges, .ref a_t_trial, .ref a_t_acts, .ref a_t_slots, .ref a_t_seen, .ref a_t_covers, .ref a_t_trialCovers, .ref a_t_walk, .ref a_t_least, .ref a_t_told, .int k_t_keptSlots, .long k_t_theSeed])), (a_t_edges, .inr (2, [.ref a_t_edges_row, .int k_t_edges_knots, .int k_t_edges_nextStamp])), (a_t_edges_row, .inr (3, [.ref a_t_edges_row_items, .int k_t_edges_row_size])), (a_t_edges_row_items, .inl (cI, 24, .inl f_t_edges_row_items)), (a_t_covers, .inr (1, [.long r48.1, .long r48.2.1, .long r48.2.2.1, .int r48.2.2.2])), (a_t_trialCovers, .inr (1, [.long k_t_trialCovers_grid, .long k_t_trialCovers_covered, .long k_t_trialCovers_coverers, .int k_t_trialCovers_reached]))]) (st1 := []) X hA (c_X10_learnCovers l G cI cZ cE a_t a_t_text a_t_edges a_t_trial a_t_acts a_t_slots a_t_seen a_t_covers a_t_trialCovers a_t_walk a_t_least a_t_told a_t_edges_row a_t_edges_row_items k_t_keptSlots k_t_theSeed k_t_edges_knots k_t_edges_nextStamp k_t_edges_row_size f_t_edges_row_items k_t_covers_grid k_t_covers_covered k_t_covers_coverers k_t_covers_reached r48 hc48) (cwV 0 hts gX10_would_X10_learnCovers rfl rfl rfl hd_X10_learnCovers ⟨Nat.le_of_ble_eq_true rfl, Nat.le_of_ble_eq_true rfl⟩) 0 7 rfl rfl hl.1 dX10_would_48 hP hD hS [0, 1, 2, 3, 4] rfl rfl rfl rfl rfl [] rfl (Nat.le_of_ble_eq_true rfl) rfl ⟨Nat.zero_le _, Nat.zero_le _⟩ (fun H locs hP hD hS => ?_)
        refine lv_aload_n hx hb dX10_would_51 rfl (lv_at hl 0 rfl) ?_
        refine va_get (D := G) (ci := 7) (v := .ref a_t_trialCovers) (C := RX10) (T := TX10) (N := 13) hx hb hts i_X10 hown hK hP 0 rfl rfl 7 (by decide) l_53 (fun _ h9 => h9) rfl dX10_would_52 ?_
        refine lv_aload_n hx hb dX10_would_55 rfl (lv_at hl 0 rfl) ?_
        refine va_get (D := G) (ci := 7) (v := .ref a_t_edges) (C := RX10) (T := TX10) (N := 13) hx hb hts i_X10 hown hK hP 0 rfl rfl 1 (by decide) l_19 (fun _ h9 => h9) rfl dX10_would_56 ?_
        obtain ⟨r59, hc59, hm⟩ := kbind hm
        refine kcV0 (st1 := [.long r59, .ref a_t_trialCovers]) X hA (c_X3_grid l G cI cZ cE a_t_edges a_t_edges_row a_t_edges_row_items k_t_edges_knots k_t_edges_nextStamp k_t_edges_row_size f_t_edges_row_items r59 hc59) (cwV 0 hts gX10_would_X3_grid rfl rfl rfl hd_X3_grid ⟨Nat.le_of_ble_eq_true rfl, Nat.le_of_ble_eq_true rfl⟩) 1 2 rfl rfl hl.1 dX10_would_59 hP hD hS [1, 2, 3] rfl rfl rfl [.ref a_t_trialCovers] rfl (Nat.le_of_ble_eq_true rfl) rfl ⟨Nat.zero_le _, Nat.zero_le _⟩ (fun H locs hP hD hS => ?_)
        refine lv_iload_n hx hb dX10_would_62 rfl (lv_at hl 1 rfl) ?_
        refine lv_iload_n hx hb dX10_would_63 rfl (lv_at hl 2 rfl) ?_
        refine kcS0 (st1 := [.long (mX5_flipped r59 p1 p2), .ref a_t_trialCovers]) X hA (c_X5_flipped l G cI cZ cE r59 p1 p2 _ rfl) (va_cwS 3 hts gX10_would_X5_flipped rfl rfl rfl hd_X5_flipped ⟨Nat.le_of_ble_eq_true rfl, Nat.le_of_ble_eq_true rfl⟩) hl.1 dX10_would_64 hP hD hS [] rfl rfl rfl [.ref a_t_trialCovers] rfl (Nat.le_of_ble_eq_true rfl) rfl ⟨Nat.zero_le _, Nat.zero_le _⟩ (fun H locs hP hD hS => ?_)
        obtain ⟨r67, hc67, hm⟩ := kbind hm
        refine kcV (ws1 := [(a_t, .inr (7, [.ref a_t_text, .ref a_t_edges, .ref a_t_trial, .ref a_t_acts, .ref a_t_slots, .ref a_t_seen, .ref a_t_covers, .ref a_t_trialCovers, .ref a_t_walk, .ref a_t_least, .ref a_t_told, .int k_t_keptSlots, .long k_t_theSeed])), (a_t_edges, .inr (2, [.ref a_t_edges_row, .int k_t_edges_knots, .int k_t_edges_nextStamp])), (a_t_edges_row, .inr (3, [.ref a_t_edges_row_items, .int k_t_edges_row_size])), (a_t_edges_row_items, .inl (cI, 24, .inl f_t_edges_row_items)), (a_t_covers, .inr (1, [.long r48.1, .long r48.2.1, .long r48.2.2.1, .int r48.2.2.2])), (a_t_trialCovers, .inr (1, [.long r67.1, .long r67.2.1, .long r67.2.2.1, .int r67.2.2.2]))]) (st1 := []) X hA (c_X2_learn l G cI cZ cE a_t_trialCovers k_t_trialCovers_grid k_t_trialCovers_covered k_t_trialCovers_coverers k_t_trialCovers_reached (mX5_flipped r59 p1 p2) r67 hc67) (cwV 1 hts gX10_would_X2_learn rfl rfl rfl hd_X2_learn ⟨Nat.le_of_ble_eq_true rfl, Nat.le_of_ble_eq_true rfl⟩) 5 1 rfl rfl hl.1 dX10_would_67 hP hD hS [5] rfl rfl rfl rfl rfl [] rfl (Nat.le_of_ble_eq_true rfl) rfl ⟨Nat.zero_le _, Nat.zero_le _⟩ (fun H locs hP hD hS => ?_)
        refine lv_aload_n hx hb dX10_would_70 rfl (lv_at hl 0 rfl) ?_
        refine va_get (D := G) (ci := 7) (v := .ref a_t_covers) (C := RX10) (T := TX10) (N := 13) hx hb hts i_X10 hown hK hP 0 rfl rfl 6 (by decide) l_49 (fun _ h9 => h9) rfl dX10_would_71 ?_
        refine lv_aload_n hx hb dX10_would_74 rfl (lv_at hl 0 rfl) ?_
        refine va_get (D := G) (ci := 7) (v := .ref a_t_trialCovers) (C := RX10) (T := TX10) (N := 13) hx hb hts i_X10 hown hK hP 0 rfl rfl 7 (by decide) l_53 (fun _ h9 => h9) rfl dX10_would_75 ?_
        obtain ⟨r78, hc78, hm⟩ := kbind hm
        refine kcV0 (st1 := [.int r78]) X hA (c_X2_changedIn l G cI cZ cE a_t_covers a_t_trialCovers r48.1 r48.2.1 r48.2.2.1 r48.2.2.2 r67.1 r67.2.1 r67.2.2.1 r67.2.2.2 r78 hc78) (cwV 1 hts gX10_would_X2_changedIn rfl rfl rfl hd_X2_changedIn ⟨Nat.le_of_ble_eq_true rfl, Nat.le_of_ble_eq_true rfl⟩) 4 1 rfl rfl hl.1 dX10_would_78 hP hD hS [4, 5] rfl rfl rfl [] rfl (Nat.le_of_ble_eq_true rfl) rfl ⟨Nat.zero_le _, Nat.zero_le _⟩ (fun H locs hP hD hS => ?_)
        have hm := Option.some.inj hm
        subst hm
        exact k_iret (v := r78) X rfl dX10_would_81 hP hD hS
      refine lv_if_ne (tgt := 47) hx hb dX10_would_31 (by decide) (fun c31 => ?_) (fun c31 => ?_)
      · have c31 := kb1 c31
        rw [if_pos c31] at hm
        exact h47 _ _ _ hP hD hS (lv_sub hl [0, 1, 2] rfl) hm
      · have c31 := kb0 c31
        rw [if_neg c31] at hm
        refine lv_aload_n hx hb dX10_would_34 rfl (lv_at hl 0 rfl) ?_
        refine va_get (D := G) (ci := 7) (v := .ref a_t_edges) (C := RX10) (T := TX10) (N := 13) hx hb hts i_X10 hown hK hP 0 rfl rfl 1 (by decide) l_19 (fun _ h9 => h9) rfl dX10_would_35 ?_
        refine kcV0 (st1 := [.int (bI (mX3_isFull k_t_edges_row_size))]) X hA (c_X3_isFull l G cI cZ cE a_t_edges a_t_edges_row a_t_edges_row_items k_t_edges_knots k_t_edges_nextStamp k_t_edges_row_size f_t_edges_row_items _ rfl) (cwV 0 hts gX10_would_X3_isFull rfl rfl rfl hd_X3_isFull ⟨Nat.le_of_ble_eq_true rfl, Nat.le_of_ble_eq_true rfl⟩) 1 2 rfl rfl hl.1 dX10_would_38 hP hD hS [1, 2, 3] rfl rfl rfl [] rfl (Nat.le_of_ble_eq_true rfl) rfl ⟨Nat.zero_le _, Nat.zero_le _⟩ (fun H locs hP hD hS => ?_)
        refine lv_if_eq (tgt := 47) hx hb dX10_would_41 (by decide) (fun c41 => ?_) (fun c41 => ?_)
        · have c41 := kb0 c41
          rw [if_neg c41] at hm
          exact h47 _ _ _ hP hD hS (lv_sub hl [0, 1, 2] rfl) hm
        · have c41 := kb1 c41
          rw [if_pos c41] at hm
          refine lv_bipush (v := (-4)) hx hb dX10_would_44 (by decide) ?_
          have hm := Option.some.inj hm
          subst hm
          exact k_iret (v := (-4)) X rfl dX10_would_46 hP hD hS
    · rw [if_pos c16] at hm
      refine lv_bipush (v := (-2)) hx hb dX10_would_19 (by decide) ?_
      have hm := Option.some.inj hm
      subst hm
      exact k_iret (v := (-2)) X rfl dX10_would_21 hP hD hS
  · have c9 := kb0 c9
    rw [if_neg c9] at hm
    refine lv_iconst (v := (-1)) hx hb dX10_would_12 (by decide) ?_
    have hm := Option.some.inj hm
    subst hm
    exact k_iret (v := (-1)) X rfl dX10_would_13 hP hD hS
theorem hd_X10_would : yX10_would.cls = RX10 ∧ yX10_would.cls ≠ "java/lang/invoke/MethodHandle" ∧ yX10_would.cls ≠ "java/lang/invoke/VarHandle" ∧ (parseMethodDescriptor yX10_would.desc).map (fun d => d.parameters.length) = some 2 := by decide +kernel
/-! CoverOrder showing -/
set_option maxRecDepth 100000 in
set_option maxHeartbeats 4000000 in
theorem c_X10_showing (l : Launch) (G : va_G) (cI cZ cE : ClassId) (a_t a_t_text a_t_edges a_t_trial a_t_acts a_t_slots a_t_seen a_t_covers a_t_trialCovers a_t_walk a_t_least a_t_told a_t_edges_row a_t_edges_row_items a_t_least_row a_t_least_deadEnds a_t_least_row_items a_t_least_deadEnds_items : Nat) (k_t_keptSlots : Int32) (k_t_theSeed : Int64) (k_t_edges_knots : Int32) (k_t_edges_nextStamp : Int32) (k_t_edges_row_size : Int32) (f_t_edges_row_items : Nat → Int32) (k_t_covers_grid : Int64) (k_t_covers_covered : Int64) (k_t_covers_coverers : Int64) (k_t_covers_reached : Int32) (k_t_least_row_size : Int32) (f_t_least_row_items : Nat → Int32) (k_t_least_deadEnds_size : Int32) (f_t_least_deadEnds_items : Nat → Int32) (p1 : Int32) (R : Int32 × Int64 × Int64 × Int64 × Int32 × Int32 × (Nat → Int32) × Int32 × (Nat → Int32)) (hm : mX10_showing k_t_edges_row_size f_t_edges_row_items k_t_covers_grid k_t_covers_covered k_t_covers_coverers k_t_covers_reached k_t_least_row_size f_t_least_row_items k_t_least_deadEnds_size f_t_least_deadEnds_items p1 = some R) : kM l yX10_showing wsX10_showing { frames := 18, cells := 0, slots := 0, locals := 435 } G cI cZ cE [.ref a_t, .int p1] [(a_t, .inr (7, [.ref a_t_text, .ref a_t_edges, .ref a_t_trial, .ref a_t_acts, .ref a_t_slots, .ref a_t_seen, .ref a_t_covers, .ref a_t_trialCovers, .ref a_t_walk, .ref a_t_least, .ref a_t_told, .int k_t_keptSlots, .long k_t_theSeed])), (a_t_edges, .inr (2, [.ref a_t_edges_row, .int k_t_edges_knots, .int k_t_edges_nextStamp])), (a_t_edges_row, .inr (3, [.ref a_t_edges_row_items, .int k_t_edges_row_size])), (a_t_edges_row_items, .inl (cI, 24, .inl f_t_edges_row_items)), (a_t_covers, .inr (1, [.long k_t_covers_grid, .long k_t_covers_covered, .long k_t_covers_coverers, .int k_t_covers_reached])), (a_t_least, .inr (4, [.ref a_t_least_row, .ref a_t_least_deadEnds])), (a_t_least_row, .inr (3, [.ref a_t_least_row_items, .int k_t_least_row_size])), (a_t_least_row_items, .inl (cI, 8, .inl f_t_least_row_items)), (a_t_least_deadEnds, .inr (3, [.ref a_t_least_deadEnds_items, .int k_t_least_deadEnds_size])), (a_t_least_deadEnds_items, .inl (cI, 128, .inl f_t_least_deadEnds_items))] [(a_t, .inr (7, [.ref a_t_text, .ref a_t_edges, .ref a_t_trial, .ref a_t_acts, .ref a_t_slots, .ref a_t_seen, .ref a_t_covers, .ref a_t_trialCovers, .ref a_t_walk, .ref a_t_least, .ref a_t_told, .int k_t_keptSlots, .long k_t_theSeed])), (a_t_edges, .inr (2, [.ref a_t_edges_row, .int k_t_edges_knots, .int k_t_edges_nextStamp])), (a_t_edges_row, .inr (3, [.ref a_t_edges_row_items, .int k_t_edges_row_size])), (a_t_edges_row_items, .inl (cI, 24, .inl f_t_edges_row_items)), (a_t_covers, .inr (1, [.long R.2.1, .long R.2.2.1, .long R.2.2.2.1, .int R.2.2.2.2.1])), (a_t_least, .inr (4, [.ref a_t_least_row, .ref a_t_least_deadEnds])), (a_t_least_row, .inr (3, [.ref a_t_least_row_items, .int R.2.2.2.2.2.1])), (a_t_least_row_items, .inl (cI, 8, .inl R.2.2.2.2.2.2.1)), (a_t_least_deadEnds, .inr (3, [.ref a_t_least_deadEnds_items, .int R.2.2.2.2.2.2.2.1])), (a_t_least_deadEnds_items, .inl (cI, 128, .inl R.2.2.2.2.2.2.2.2))] (some (.int R.1)) := by
  refine kM_of cX10_showing 2 (some .int) RX10 (by decide) rfl rfl (Nat.le_of_ble_eq_true rfl) ?_
  intro p e s m below meth c A ls X hA hP hD hS hl
  have hx := X.1.1
  have hb := X.1.2.1
  have hts := X.1.2.2.2.2
  have hown := X.1.2.2.2.1
  have hK := X.2.2.2.1
  have l_49 : (.fieldLink RX10 49 "CoverOrder" "covers" "LCoverOrder$Covers;" : Cond).before _ s = true := hts _ (List.mem_of_getElem? (i := 1) (by decide +kernel))
  have i_X10 : ∀ w ∈ u_ws RX10 TX10 13, w ∈ wsX10_showing := k_in _ [159, 160, 161, 162, 163, 164, 165, 166, 167, 168, 169, 170, 171] (by decide +kernel)
  have l_66 : (.fieldLink RX10 66 "CoverOrder" "least" "LCoverOrder$Showing;" : Cond).before _ s = true := hts _ (List.mem_of_getElem? (i := 2) (by decide +kernel))
  have hl : lv_has ls 2 [(0, .ref a_t), (1, .int p1)] := hl
  rw [mX10_showing] at hm
  refine lv_aload_n hx hb dX10_showing_0 rfl (lv_at hl 0 rfl) ?_
  obtain ⟨r1, hc1, hm⟩ := kbind hm
  refine kcV (ws1 := [(a_t, .inr (7, [.ref a_t_text, .ref a_t_edges, .ref a_t_trial, .ref a_t_acts, .ref a_t_slots, .ref a_t_seen, .ref a_t_covers, .ref a_t_trialCovers, .ref a_t_walk, .ref a_t_least, .ref a_t_told, .int k_t_keptSlots, .long k_t_theSeed])), (a_t_edges, .inr (2, [.ref a_t_edges_row, .int k_t_edges_knots, .int k_t_edges_nextStamp])), (a_t_edges_row, .inr (3, [.ref a_t_edges_row_items, .int k_t_edges_row_size])), (a_t_edges_row_items, .inl (cI, 24, .inl f_t_edges_row_items)), (a_t_covers, .inr (1, [.long r1.1, .long r1.2.1, .long r1.2.2.1, .int r1.2.2.2])), (a_t_least, .inr (4, [.ref a_t_least_row, .ref a_t_least_deadEnds])), (a_t_least_row, .inr (3, [.ref a_t_least_row_items, .int k_t_least_row_size])), (a_t_least_row_items, .inl (cI, 8, .inl f_t_least_row_items)), (a_t_least_deadEnds, .inr (3, [.ref a_t_least_deadEnds_items, .int k_t_least_deadEnds_size])), (a_t_least_deadEnds_items, .inl (cI, 128, .inl f_t_least_deadEnds_items))]) (st1 := []) X hA (c_X10_learnCovers l G cI cZ cE a_t a_t_text a_t_edges a_t_trial a_t_acts a_t_slots a_t_seen a_t_covers a_t_trialCovers a_t_walk a_t_least a_t_told a_t_edges_row a_t_edges_row_items k_t_keptSlots k_t_theSeed k_t_edges_knots k_t_edges_nextStamp k_t_edges_row_size f_t_edges_row_items k_t_covers_grid k_t_covers_covered k_t_covers_coverers k_t_covers_reached r1 hc1) (cwV 0 hts gX10_showing_X10_learnCovers rfl rfl rfl hd_X10_learnCovers ⟨Nat.le_of_ble_eq_true rfl, Nat.le_of_ble_eq_true rfl⟩) 0 7 rfl rfl hl.1 dX10_showing_1 hP hD hS [0, 1, 2, 3, 4] rfl rfl rfl rfl rfl [] rfl (Nat.le_of_ble_eq_true rfl) rfl ⟨Nat.zero_le _, Nat.zero_le _⟩ (fun H locs hP hD hS => ?_)
  refine lv_iload_n hx hb dX10_showing_4 rfl (lv_at hl 1 rfl) ?_
  refine lv_if_lt (tgt := 19) hx hb dX10_showing_5 (by decide) (fun c5 => ?_) (fun c5 => ?_)
  · rw [if_pos c5] at hm
    refine lv_bipush (v := (-9)) hx hb dX10_showing_19 (by decide) ?_
    have hm := Option.some.inj hm
    subst hm
    exact k_iret (v := (-9)) X rfl dX10_showing_21 hP hD hS
  · rw [if_neg c5] at hm
    refine lv_iload_n hx hb dX10_showing_8 rfl (lv_at hl 1 rfl) ?_
    refine lv_aload_n hx hb dX10_showing_9 rfl (lv_at hl 0 rfl) ?_
    refine va_get (D := G) (ci := 7) (v := .ref a_t_covers) (C := RX10) (T := TX10) (N := 13) hx hb hts i_X10 hown hK hP 0 rfl rfl 6 (by decide) l_49 (fun _ h9 => h9) rfl dX10_showing_10 ?_
    refine kcV0 (st1 := [.int (mX2_reachedCount r1.2.2.2), .int p1]) X hA (c_X2_reachedCount l G cI cZ cE a_t_covers r1.1 r1.2.1 r1.2.2.1 r1.2.2.2 _ rfl) (cwV 0 hts gX10_showing_X2_reachedCount rfl rfl rfl hd_X2_reachedCount ⟨Nat.le_of_ble_eq_true rfl, Nat.le_of_ble_eq_true rfl⟩) 4 1 rfl rfl hl.1 dX10_showing_13 hP hD hS [4] rfl rfl rfl [.int p1] rfl (Nat.le_of_ble_eq_true rfl) rfl ⟨Nat.zero_le _, Nat.zero_le _⟩ (fun H locs hP hD hS => ?_)
    refine lv_icmp_lt (tgt := 22) hx hb dX10_showing_16 (by decide) (fun c16 => ?_) (fun c16 => ?_)
    · rw [if_pos c16] at hm
      refine lv_aload_n hx hb dX10_showing_22 rfl (lv_at hl 0 rfl) ?_
      refine va_get (D := G) (ci := 7) (v := .ref a_t_least) (C := RX10) (T := TX10) (N := 13) hx hb hts i_X10 hown hK hP 0 rfl rfl 9 (by decide) l_66 (fun _ h9 => h9) rfl dX10_showing_23 ?_
      refine lv_aload_n hx hb dX10_showing_26 rfl (lv_at hl 0 rfl) ?_
      refine va_get (D := G) (ci := 7) (v := .ref a_t_covers) (C := RX10) (T := TX10) (N := 13) hx hb hts i_X10 hown hK hP 0 rfl rfl 6 (by decide) l_49 (fun _ h9 => h9) rfl dX10_showing_27 ?_
      obtain ⟨r30, hc30, hm⟩ := kbind hm
      refine kcV (ws1 := [(a_t, .inr (7, [.ref a_t_text, .ref a_t_edges, .ref a_t_trial, .ref a_t_acts, .ref a_t_slots, .ref a_t_seen, .ref a_t_covers, .ref a_t_trialCovers, .ref a_t_walk, .ref a_t_least, .ref a_t_told, .int k_t_keptSlots, .long k_t_theSeed])), (a_t_edges, .inr (2, [.ref a_t_edges_row, .int k_t_edges_knots, .int k_t_edges_nextStamp])), (a_t_edges_row, .inr (3, [.ref a_t_edges_row_items, .int k_t_edges_row_size])), (a_t_edges_row_items, .inl (cI, 24, .inl f_t_edges_row_items)), (a_t_covers, .inr (1, [.long r1.1, .long r1.2.1, .long r1.2.2.1, .int r1.2.2.2])), (a_t_least, .inr (4, [.ref a_t_least_row, .ref a_t_least_deadEnds])), (a_t_least_row, .inr (3, [.ref a_t_least_row_items, .int r30.1])), (a_t_least_row_items, .inl (cI, 8, .inl r30.2.1)), (a_t_least_deadEnds, .inr (3, [.ref a_t_least_deadEnds_items, .int r30.2.2.1])), (a_t_least_deadEnds_items, .inl (cI, 128, .inl r30.2.2.2))]) (st1 := []) X hA (c_X7_find l G cI cZ cE a_t_least a_t_least_row a_t_least_deadEnds a_t_least_row_items a_t_least_deadEnds_items a_t_covers k_t_least_row_size f_t_least_row_items k_t_least_deadEnds_size f_t_least_deadEnds_items r1.1 r1.2.1 r1.2.2.1 r1.2.2.2 r30 hc30) (cwV 1 hts gX10_showing_X7_find rfl rfl rfl hd_X7_find ⟨Nat.le_of_ble_eq_true rfl, Nat.le_of_ble_eq_true rfl⟩) 5 4 rfl rfl hl.1 dX10_showing_30 hP hD hS [5, 6, 7, 8, 9, 4] rfl rfl rfl rfl rfl [] rfl (Nat.le_of_ble_eq_true rfl) rfl ⟨Nat.zero_le _, Nat.zero_le _⟩ (fun H locs hP hD hS => ?_)
      refine lv_aload_n hx hb dX10_showing_33 rfl (lv_at hl 0 rfl) ?_
      refine va_get (D := G) (ci := 7) (v := .ref a_t_least) (C := RX10) (T := TX10) (N := 13) hx hb hts i_X10 hown hK hP 0 rfl rfl 9 (by decide) l_66 (fun _ h9 => h9) rfl dX10_showing_34 ?_
      refine lv_iload_n hx hb dX10_showing_37 rfl (lv_at hl 1 rfl) ?_
      refine kcV0 (st1 := [.int (mX7_knotAt r30.1 r30.2.1 p1)]) X hA (c_X7_knotAt l G cI cZ cE a_t_least a_t_least_row a_t_least_deadEnds a_t_least_row_items r30.1 r30.2.1 p1 _ rfl) (cwV 1 hts gX10_showing_X7_knotAt rfl rfl rfl hd_X7_knotAt ⟨Nat.le_of_ble_eq_true rfl, Nat.le_of_ble_eq_true rfl⟩) 5 4 rfl rfl hl.1 dX10_showing_38 hP hD hS [5, 6, 7] rfl rfl rfl [] rfl (Nat.le_of_ble_eq_true rfl) rfl ⟨Nat.zero_le _, Nat.zero_le _⟩ (fun H locs hP hD hS => ?_)
      have hm := Option.some.inj hm
      subst hm
      exact k_iret (v := (mX7_knotAt r30.1 r30.2.1 p1)) X rfl dX10_showing_41 hP hD hS
    · rw [if_neg c16] at hm
      refine lv_bipush (v := (-9)) hx hb dX10_showing_19 (by decide) ?_
      have hm := Option.some.inj hm
      subst hm
      exact k_iret (v := (-9)) X rfl dX10_showing_21 hP hD hS
theorem hd_X10_showing : yX10_showing.cls = RX10 ∧ yX10_showing.cls ≠ "java/lang/invoke/MethodHandle" ∧ yX10_showing.cls ≠ "java/lang/invoke/VarHandle" ∧ (parseMethodDescriptor yX10_showing.desc).map (fun d => d.parameters.length) = some 1 := by decide +kernel
/-! CoverOrder look -/
set_option maxRecDepth 100000 in
set_option maxHeartbeats 4000000 in
theorem c_X10_look (l : Launch) (G : va_G) (cI cZ cE : ClassId) (a_t a_t_text a_t_edges a_t_trial a_t_acts a_t_slots a_t_seen a_t_covers a_t_trialCovers a_t_walk a_t_least a_t_told a_t_edges_row a_t_edges_row_items a_t_told_items : Nat) (k_t_keptSlots : Int32) (k_t_theSeed : Int64) (k_t_edges_knots : Int32) (k_t_edges_nextStamp : Int32) (k_t_edges_row_size : Int32) (f_t_edges_row_items : Nat → Int32) (k_t_covers_grid : Int64) (k_t_covers_covered : Int64) (k_t_covers_coverers : Int64) (k_t_covers_reached : Int32) (k_t_told_size : Int32) (f_t_told_items : Nat → Int32) (p1 : Int64) (R : Int32 × Int64 × Int64 × Int64 × Int32 × Int32 × (Nat → Int32)) (hm : mX10_look k_t_edges_row_size f_t_edges_row_items k_t_covers_grid k_t_covers_covered k_t_covers_coverers k_t_covers_reached k_t_told_size f_t_told_items p1 = some R) : kM l yX10_look wsX10_look { frames := 5, cells := 0, slots := 0, locals := 114 } G cI cZ cE [.ref a_t, .long p1] [(a_t, .inr (7, [.ref a_t_text, .ref a_t_edges, .ref a_t_trial, .ref a_t_acts, .ref a_t_slots, .ref a_t_seen, .ref a_t_covers, .ref a_t_trialCovers, .ref a_t_walk, .ref a_t_least, .ref a_t_told, .int k_t_keptSlots, .long k_t_theSeed])), (a_t_edges, .inr (2, [.ref a_t_edges_row, .int k_t_edges_knots, .int k_t_edges_nextStamp])), (a_t_edges_row, .inr (3, [.ref a_t_edges_row_items, .int k_t_edges_row_size])), (a_t_edges_row_items, .inl (cI, 24, .inl f_t_edges_row_items)), (a_t_covers, .inr (1, [.long k_t_covers_grid, .long k_t_covers_covered, .long k_t_covers_coverers, .int k_t_covers_reached])), (a_t_told, .inr (3, [.ref a_t_told_items, .int k_t_told_size])), (a_t_told_items, .inl (cI, 8, .inl f_t_told_items))] [(a_t, .inr (7, [.ref a_t_text, .ref a_t_edges, .ref a_t_trial, .ref a_t_acts, .ref a_t_slots, .ref a_t_seen, .ref a_t_covers, .ref a_t_trialCovers, .ref a_t_walk, .ref a_t_least, .ref a_t_told, .int k_t_keptSlots, .long k_t_theSeed])), (a_t_edges, .inr (2, [.ref a_t_edges_row, .int k_t_edges_knots, .int k_t_edges_nextStamp])), (a_t_edges_row, .inr (3, [.ref a_t_edges_row_items, .int k_t_edges_row_size])), (a_t_edges_row_items, .inl (cI, 24, .inl f_t_edges_row_items)), (a_t_covers, .inr (1, [.long R.2.1, .long R.2.2.1, .long R.2.2.2.1, .int R.2.2.2.2.1])), (a_t_told, .inr (3, [.ref a_t_told_items, .int R.2.2.2.2.2.1])), (a_t_told_items, .inl (cI, 8, .inl R.2.2.2.2.2.2))] (some (.int R.1)) := by
  refine kM_of cX10_look 5 (some .int) RX10 (by decide) rfl rfl (Nat.le_of_ble_eq_true rfl) ?_
  intro p e s m below meth c A ls X hA hP hD hS hl
  have hx := X.1.1
  have hb := X.1.2.1
  have hts := X.1.2.2.2.2
  have hown := X.1.2.2.2.1
  have hK := X.2.2.2.1
  have l_49 : (.fieldLink RX10 49 "CoverOrder" "covers" "LCoverOrder$Covers;" : Cond).before _ s = true := hts _ (List.mem_of_getElem? (i := 1) (by decide +kernel))
  have i_X10 : ∀ w ∈ u_ws RX10 TX10 13, w ∈ wsX10_look := k_in _ [147, 148, 149, 150, 151, 152, 153, 154, 155, 156, 157, 158, 159] (by decide +kernel)
  have l_70 : (.fieldLink RX10 70 "CoverOrder" "told" "LCoverOrder$Row;" : Cond).before _ s = true := hts _ (List.mem_of_getElem? (i := 2) (by decide +kernel))
  have hl : lv_has ls 5 [(0, .ref a_t), (1, .long p1)] := hl
  rw [mX10_look] at hm
  refine lv_aload_n hx hb dX10_look_0 rfl (lv_at hl 0 rfl) ?_
  obtain ⟨r1, hc1, hm⟩ := kbind hm
  refine kcV (ws1 := [(a_t, .inr (7, [.ref a_t_text, .ref a_t_edges, .ref a_t_trial, .ref a_t_acts, .ref a_t_slots, .ref a_t_seen, .ref a_t_covers, .ref a_t_trialCovers, .ref a_t_walk, .ref a_t_least, .ref a_t_told, .int k_t_keptSlots, .long k_t_theSeed])), (a_t_edges, .inr (2, [.ref a_t_edges_row, .int k_t_edges_knots, .int k_t_edges_nextStamp])), (a_t_edges_row, .inr (3, [.ref a_t_edges_row_items, .int k_t_edges_row_size])), (a_t_edges_row_items, .inl (cI, 24, .inl f_t_edges_row_items)), (a_t_covers, .inr (1, [.long r1.1, .long r1.2.1, .long r1.2.2.1, .int r1.2.2.2])), (a_t_told, .inr (3, [.ref a_t_told_items, .int k_t_told_size])), (a_t_told_items, .inl (cI, 8, .inl f_t_told_items))]) (st1 := []) X hA (c_X10_learnCovers l G cI cZ cE a_t a_t_text a_t_edges a_t_trial a_t_acts a_t_slots a_t_seen a_t_covers a_t_trialCovers a_t_walk a_t_least a_t_told a_t_edges_row a_t_edges_row_items k_t_keptSlots k_t_theSeed k_t_edges_knots k_t_edges_nextStamp k_t_edges_row_size f_t_edges_row_items k_t_covers_grid k_t_covers_covered k_t_covers_coverers k_t_covers_reached r1 hc1) (cwV 0 hts gX10_look_X10_learnCovers rfl rfl rfl hd_X10_learnCovers ⟨Nat.le_of_ble_eq_true rfl, Nat.le_of_ble_eq_true rfl⟩) 0 7 rfl rfl hl.1 dX10_look_1 hP hD hS [0, 1, 2, 3, 4] rfl rfl rfl rfl rfl [] rfl (Nat.le_of_ble_eq_true rfl) rfl ⟨Nat.zero_le _, Nat.zero_le _⟩ (fun H locs hP hD hS => ?_)
  refine lv_aload_n hx hb dX10_look_4 rfl (lv_at hl 0 rfl) ?_
  refine va_get (D := G) (ci := 7) (v := .ref a_t_covers) (C := RX10) (T := TX10) (N := 13) hx hb hts i_X10 hown hK hP 0 rfl rfl 6 (by decide) l_49 (fun _ h9 => h9) rfl dX10_look_5 ?_
  refine kcV0 (st1 := [.int (mX2_reachedCount r1.2.2.2)]) X hA (c_X2_reachedCount l G cI cZ cE a_t_covers r1.1 r1.2.1 r1.2.2.1 r1.2.2.2 _ rfl) (cwV 0 hts gX10_look_X2_reachedCount rfl rfl rfl hd_X2_reachedCount ⟨Nat.le_of_ble_eq_true rfl, Nat.le_of_ble_eq_true rfl⟩) 4 1 rfl rfl hl.1 dX10_look_8 hP hD hS [4] rfl rfl rfl [] rfl (Nat.le_of_ble_eq_true rfl) rfl ⟨Nat.zero_le _, Nat.zero_le _⟩ (fun H locs hP hD hS => ?_)
  refine lv_istore_n (lv' := [(3, .int (mX2_reachedCount r1.2.2.2)), (0, .ref a_t), (1, .long p1)]) hx hb dX10_look_11 rfl hl (by decide) rfl (fun ls hl => ?_)
  refine lv_lload_n hx hb dX10_look_12 rfl (lv_at hl 2 rfl) ?_
  refine lv_iload_n hx hb dX10_look_13 rfl (lv_at hl 0 rfl) ?_
  obtain ⟨r14, hc14, hm⟩ := kbind hm
  refine kcS0 (st1 := [.int (bI r14)]) X hA (c_X4_fit l G cI cZ cE p1 (mX2_reachedCount r1.2.2.2) r14 hc14) (va_cwS 2 hts gX10_look_X4_fit rfl rfl rfl hd_X4_fit ⟨Nat.le_of_ble_eq_true rfl, Nat.le_of_ble_eq_true rfl⟩) hl.1 dX10_look_14 hP hD hS [] rfl rfl rfl [] rfl (Nat.le_of_ble_eq_true rfl) rfl ⟨Nat.zero_le _, Nat.zero_le _⟩ (fun H locs hP hD hS => ?_)
  refine lv_if_ne (tgt := 23) hx hb dX10_look_17 (by decide) (fun c17 => ?_) (fun c17 => ?_)
  · have c17 := kb1 c17
    rw [if_pos c17] at hm
    refine lv_aload_n hx hb dX10_look_23 rfl (lv_at hl 1 rfl) ?_
    refine va_get (D := G) (ci := 7) (v := .ref a_t_told) (C := RX10) (T := TX10) (N := 13) hx hb hts i_X10 hown hK hP 0 rfl rfl 10 (by decide) l_70 (fun _ h9 => h9) rfl dX10_look_24 ?_
    refine kcV (ws1 := [(a_t, .inr (7, [.ref a_t_text, .ref a_t_edges, .ref a_t_trial, .ref a_t_acts, .ref a_t_slots, .ref a_t_seen, .ref a_t_covers, .ref a_t_trialCovers, .ref a_t_walk, .ref a_t_least, .ref a_t_told, .int k_t_keptSlots, .long k_t_theSeed])), (a_t_edges, .inr (2, [.ref a_t_edges_row, .int k_t_edges_knots, .int k_t_edges_nextStamp])), (a_t_edges_row, .inr (3, [.ref a_t_edges_row_items, .int k_t_edges_row_size])), (a_t_edges_row_items, .inl (cI, 24, .inl f_t_edges_row_items)), (a_t_covers, .inr (1, [.long r1.1, .long r1.2.1, .long r1.2.2.1, .int r1.2.2.2])), (a_t_told, .inr (3, [.ref a_t_told_items, .int (mX6_clear k_t_told_size)])), (a_t_told_items, .inl (cI, 8, .inl f_t_told_items))]) (st1 := []) X hA (c_X6_clear l G cI cZ cE a_t_told a_t_told_items k_t_told_size _ rfl) (cwV 0 hts gX10_look_X6_clear rfl rfl rfl hd_X6_clear ⟨Nat.le_of_ble_eq_true rfl, Nat.le_of_ble_eq_true rfl⟩) 5 3 rfl rfl hl.1 dX10_look_27 hP hD hS [5] rfl rfl rfl rfl rfl [] rfl (Nat.le_of_ble_eq_true rfl) rfl ⟨Nat.zero_le _, Nat.zero_le _⟩ (fun H locs hP hD hS => ?_)
    refine lv_iconst (v := 0) hx hb dX10_look_30 (by decide) ?_
    refine lv_istore (lv' := [(4, .int 0), (3, .int (mX2_reachedCount r1.2.2.2)), (0, .ref a_t), (1, .long p1)]) hx hb dX10_look_31 hl (by decide) rfl (fun ls hl => ?_)
    have h33 : ∀ (n33 : Nat), ∀ (v33_4 : Int32) (w33_k_t_told_size : Int32) (w33_f_t_told_items : Nat → Int32) (H : Heap) (locs : List Loc) (ls : Array Slot), va_P G vwCl [(a_t, .inr (7, [.ref a_t_text, .ref a_t_edges, .ref a_t_trial, .ref a_t_acts, .ref a_t_slots, .ref a_t_seen, .ref a_t_covers, .ref a_t_trialCovers, .ref a_t_walk, .ref a_t_least, .ref a_t_told, .int k_t_keptSlots, .long k_t_theSeed])), (a_t_edges, .inr (2, [.ref a_t_edges_row, .int k_t_edges_knots, .int k_t_edges_nextStamp])), (a_t_edges_row, .inr (3, [.ref a_t_edges_row_items, .int k_t_edges_row_size])), (a_t_edges_row_items, .inl (cI, 24, .inl f_t_edges_row_items)), (a_t_covers, .inr (1, [.long r1.1, .long r1.2.1, .long r1.2.2.1, .int r1.2.2.2])), (a_t_told, .inr (3, [.ref a_t_told_items, .int w33_k_t_told_size])), (a_t_told_items, .inl (cI, 8, .inl w33_f_t_told_items))] H → va_D A [(a_t, .inr (7, [.ref a_t_text, .ref a_t_edges, .ref a_t_trial, .ref a_t_acts, .ref a_t_slots, .ref a_t_seen, .ref a_t_covers, .ref a_t_trialCovers, .ref a_t_walk, .ref a_t_least, .ref a_t_told, .int k_t_keptSlots, .long k_t_theSeed])), (a_t_edges, .inr (2, [.ref a_t_edges_row, .int k_t_edges_knots, .int k_t_edges_nextStamp])), (a_t_edges_row, .inr (3, [.ref a_t_edges_row_items, .int k_t_edges_row_size])), (a_t_edges_row_items, .inl (cI, 24, .inl f_t_edges_row_items)), (a_t_covers, .inr (1, [.long r1.1, .long r1.2.1, .long r1.2.2.1, .int r1.2.2.2])), (a_t_told, .inr (3, [.ref a_t_told_items, .int w33_k_t_told_size])), (a_t_told_items, .inl (cI, 8, .inl w33_f_t_told_items))] → va_S A s.heap H locs → lv_has ls 5 [(0, .ref a_t), (1, .long p1), (3, .int (mX2_reachedCount r1.2.2.2)), (4, .int v33_4)] → mX10_look_L33 p1 r1 n33 v33_4 w33_k_t_told_size w33_f_t_told_items = some R → W p l e { frames := 5, cells := 0, slots := 0, locals := 114 } s m ([.ref a_t, .long p1] : List Value).toArray below meth c H locs 0 0 (kQ below G [(a_t, .inr (7, [.ref a_t_text, .ref a_t_edges, .ref a_t_trial, .ref a_t_acts, .ref a_t_slots, .ref a_t_seen, .ref a_t_covers, .ref a_t_trialCovers, .ref a_t_walk, .ref a_t_least, .ref a_t_told, .int k_t_keptSlots, .long k_t_theSeed])), (a_t_edges, .inr (2, [.ref a_t_edges_row, .int k_t_edges_knots, .int k_t_edges_nextStamp])), (a_t_edges_row, .inr (3, [.ref a_t_edges_row_items, .int k_t_edges_row_size])), (a_t_edges_row_items, .inl (cI, 24, .inl f_t_edges_row_items)), (a_t_covers, .inr (1, [.long R.2.1, .long R.2.2.1, .long R.2.2.2.1, .int R.2.2.2.2.1])), (a_t_told, .inr (3, [.ref a_t_told_items, .int R.2.2.2.2.2.1])), (a_t_told_items, .inl (cI, 8, .inl R.2.2.2.2.2.2))] (some (.int R.1)) A ([.ref a_t, .long p1] : List Value).toArray s) (F0 m 33 ls []) := by
      intro n33
      induction n33 with
      | zero => intro v33_4 w33_k_t_told_size w33_f_t_told_items H locs ls hP hD hS hl hm; rw [mX10_look_L33] at hm; cases hm
      | succ n33 ih33 =>
        intro v33_4 w33_k_t_told_size w33_f_t_told_items H locs ls hP hD hS hl hm
        rw [mX10_look_L33] at hm
        refine lv_iload hx hb dX10_look_33 (lv_at hl 3 rfl) ?_
        refine lv_iload_n hx hb dX10_look_35 rfl (lv_at hl 2 rfl) ?_
        have h59 : ∀ (H : Heap) (locs : List Loc) (ls : Array Slot), va_P G vwCl [(a_t, .inr (7, [.ref a_t_text, .ref a_t_edges, .ref a_t_trial, .ref a_t_acts, .ref a_t_slots, .ref a_t_seen, .ref a_t_covers, .ref a_t_trialCovers, .ref a_t_walk, .ref a_t_least, .ref a_t_told, .int k_t_keptSlots, .long k_t_theSeed])), (a_t_edges, .inr (2, [.ref a_t_edges_row, .int k_t_edges_knots, .int k_t_edges_nextStamp])), (a_t_edges_row, .inr (3, [.ref a_t_edges_row_items, .int k_t_edges_row_size])), (a_t_edges_row_items, .inl (cI, 24, .inl f_t_edges_row_items)), (a_t_covers, .inr (1, [.long r1.1, .long r1.2.1, .long r1.2.2.1, .int r1.2.2.2])), (a_t_told, .inr (3, [.ref a_t_told_items, .int w33_k_t_told_size])), (a_t_told_items, .inl (cI, 8, .inl w33_f_t_told_items))] H → va_D A [(a_t, .inr (7, [.ref a_t_text, .ref a_t_edges, .ref a_t_trial, .ref a_t_acts, .ref a_t_slots, .ref a_t_seen, .ref a_t_covers, .ref a_t_trialCovers, .ref a_t_walk, .ref a_t_least, .ref a_t_told, .int k_t_keptSlots, .long k_t_theSeed])), (a_t_edges, .inr (2, [.ref a_t_edges_row, .int k_t_edges_knots, .int k_t_edges_nextStamp])), (a_t_edges_row, .inr (3, [.ref a_t_edges_row_items, .int k_t_edges_row_size])), (a_t_edges_row_items, .inl (cI, 24, .inl f_t_edges_row_items)), (a_t_covers, .inr (1, [.long r1.1, .long r1.2.1, .long r1.2.2.1, .int r1.2.2.2])), (a_t_told, .inr (3, [.ref a_t_told_items, .int w33_k_t_told_size])), (a_t_told_items, .inl (cI, 8, .inl w33_f_t_told_items))] → va_S A s.heap H locs → lv_has ls 5 [(0, .ref a_t)] → mX10_look_J59 r1 w33_k_t_told_size w33_f_t_told_items = some R → W p l e { frames := 5, cells := 0, slots := 0, locals := 114 } s m ([.ref a_t, .long p1] : List Value).toArray below meth c H locs 0 0 (kQ below G [(a_t, .inr (7, [.ref a_t_text, .ref a_t_edges, .ref a_t_trial, .ref a_t_acts, .ref a_t_slots, .ref a_t_seen, .ref a_t_covers, .ref a_t_trialCovers, .ref a_t_walk, .ref a_t_least, .ref a_t_told, .int k_t_keptSlots, .long k_t_theSeed])), (a_t_edges, .inr (2, [.ref a_t_edges_row, .int k_t_edges_knots, .int k_t_edges_nextStamp])), (a_t_edges_row, .inr (3, [.ref a_t_edges_row_items, .int k_t_edges_row_size])), (a_t_edges_row_items, .inl (cI, 24, .inl f_t_edges_row_items)), (a_t_covers, .inr (1, [.long R.2.1, .long R.2.2.1, .long R.2.2.2.1, .int R.2.2.2.2.1])), (a_t_told, .inr (3, [.ref a_t_told_items, .int R.2.2.2.2.2.1])), (a_t_told_items, .inl (cI, 8, .inl R.2.2.2.2.2.2))] (some (.int R.1)) A ([.ref a_t, .long p1] : List Value).toArray s) (F0 m 59 ls []) := by
          intro H locs ls hP hD hS hl hm
          rw [mX10_look_J59] at hm
          refine lv_aload_n hx hb dX10_look_59 rfl (lv_at hl 0 rfl) ?_
          refine va_get (D := G) (ci := 7) (v := .ref a_t_covers) (C := RX10) (T := TX10) (N := 13) hx hb hts i_X10 hown hK hP 0 rfl rfl 6 (by decide) l_49 (fun _ h9 => h9) rfl dX10_look_60 ?_
          refine lv_aload_n hx hb dX10_look_63 rfl (lv_at hl 0 rfl) ?_
          refine va_get (D := G) (ci := 7) (v := .ref a_t_told) (C := RX10) (T := TX10) (N := 13) hx hb hts i_X10 hown hK hP 0 rfl rfl 10 (by decide) l_70 (fun _ h9 => h9) rfl dX10_look_64 ?_
          obtain ⟨r67, hc67, hm⟩ := kbind hm
          refine kcV0 (st1 := [.int r67]) X hA (c_X2_firstMisplaced l G cI cZ cE a_t_covers a_t_told a_t_told_items 8 r1.1 r1.2.1 r1.2.2.1 r1.2.2.2 w33_k_t_told_size w33_f_t_told_items r67 hc67) (cwV 1 hts gX10_look_X2_firstMisplaced rfl rfl rfl hd_X2_firstMisplaced ⟨Nat.le_of_ble_eq_true rfl, Nat.le_of_ble_eq_true rfl⟩) 4 1 rfl rfl hl.1 dX10_look_67 hP hD hS [4, 5, 6] rfl rfl rfl [] rfl (Nat.le_of_ble_eq_true rfl) rfl ⟨Nat.zero_le _, Nat.zero_le _⟩ (fun H locs hP hD hS => ?_)
          refine lv_istore (lv' := [(4, .int r67), (0, .ref a_t)]) hx hb dX10_look_70 hl (by decide) rfl (fun ls hl => ?_)
          refine lv_iload hx hb dX10_look_72 (lv_at hl 0 rfl) ?_
          refine lv_bipush (v := (-9)) hx hb dX10_look_74 (by decide) ?_
          refine lv_icmp_eq (tgt := 84) hx hb dX10_look_76 (by decide) (fun c76 => ?_) (fun c76 => ?_)
          · rw [if_pos c76] at hm
            refine lv_aload_n hx hb dX10_look_84 rfl (lv_at hl 1 rfl) ?_
            refine va_get (D := G) (ci := 7) (v := .ref a_t_covers) (C := RX10) (T := TX10) (N := 13) hx hb hts i_X10 hown hK hP 0 rfl rfl 6 (by decide) l_49 (fun _ h9 => h9) rfl dX10_look_85 ?_
            refine lv_aload_n hx hb dX10_look_88 rfl (lv_at hl 1 rfl) ?_
            refine va_get (D := G) (ci := 7) (v := .ref a_t_told) (C := RX10) (T := TX10) (N := 13) hx hb hts i_X10 hown hK hP 0 rfl rfl 10 (by decide) l_70 (fun _ h9 => h9) rfl dX10_look_89 ?_
            obtain ⟨r92, hc92, hm⟩ := kbind hm
            refine kcV0 (st1 := [.int r92]) X hA (c_X2_firstNotShown l G cI cZ cE a_t_covers a_t_told a_t_told_items 8 r1.1 r1.2.1 r1.2.2.1 r1.2.2.2 w33_k_t_told_size w33_f_t_told_items r92 hc92) (cwV 1 hts gX10_look_X2_firstNotShown rfl rfl rfl hd_X2_firstNotShown ⟨Nat.le_of_ble_eq_true rfl, Nat.le_of_ble_eq_true rfl⟩) 4 1 rfl rfl hl.1 dX10_look_92 hP hD hS [4, 5, 6] rfl rfl rfl [] rfl (Nat.le_of_ble_eq_true rfl) rfl ⟨Nat.zero_le _, Nat.zero_le _⟩ (fun H locs hP hD hS => ?_)
            have hm := Option.some.inj hm
            subst hm
            exact k_iret (v := r92) X rfl dX10_look_95 hP hD hS
          · rw [if_neg c76] at hm
            refine lv_iload hx hb dX10_look_79 (lv_at hl 0 rfl) ?_
            refine lv_goto (tgt := 95) hx hb dX10_look_81 (by decide) ?_
            have hm := Option.some.inj hm
            subst hm
            exact k_iret (v := r67) X rfl dX10_look_95 hP hD hS
        refine lv_icmp_ge (tgt := 59) hx hb dX10_look_36 (by decide) (fun c36 => ?_) (fun c36 => ?_)
        · rw [if_pos c36] at hm
          exact h59 _ _ _ hP hD hS (lv_sub hl [0] rfl) hm
        · rw [if_neg c36] at hm
          refine lv_aload_n hx hb dX10_look_39 rfl (lv_at hl 0 rfl) ?_
          refine va_get (D := G) (ci := 7) (v := .ref a_t_told) (C := RX10) (T := TX10) (N := 13) hx hb hts i_X10 hown hK hP 0 rfl rfl 10 (by decide) l_70 (fun _ h9 => h9) rfl dX10_look_40 ?_
          refine lv_lload_n hx hb dX10_look_43 rfl (lv_at hl 1 rfl) ?_
          refine lv_iload hx hb dX10_look_44 (lv_at hl 3 rfl) ?_
          refine lv_iload_n hx hb dX10_look_46 rfl (lv_at hl 2 rfl) ?_
          obtain ⟨r47, hc47, hm⟩ := kbind hm
          refine kcS0 (st1 := [.int r47, .ref a_t_told]) X hA (c_X4_at l G cI cZ cE p1 v33_4 (mX2_reachedCount r1.2.2.2) r47 hc47) (va_cwS 3 hts gX10_look_X4_at rfl rfl rfl hd_X4_at ⟨Nat.le_of_ble_eq_true rfl, Nat.le_of_ble_eq_true rfl⟩) hl.1 dX10_look_47 hP hD hS [] rfl rfl rfl [.ref a_t_told] rfl (Nat.le_of_ble_eq_true rfl) rfl ⟨Nat.zero_le _, Nat.zero_le _⟩ (fun H locs hP hD hS => ?_)
          obtain ⟨r50, hc50, hm⟩ := kbind hm
          refine kcV (ws1 := [(a_t, .inr (7, [.ref a_t_text, .ref a_t_edges, .ref a_t_trial, .ref a_t_acts, .ref a_t_slots, .ref a_t_seen, .ref a_t_covers, .ref a_t_trialCovers, .ref a_t_walk, .ref a_t_least, .ref a_t_told, .int k_t_keptSlots, .long k_t_theSeed])), (a_t_edges, .inr (2, [.ref a_t_edges_row, .int k_t_edges_knots, .int k_t_edges_nextStamp])), (a_t_edges_row, .inr (3, [.ref a_t_edges_row_items, .int k_t_edges_row_size])), (a_t_edges_row_items, .inl (cI, 24, .inl f_t_edges_row_items)), (a_t_covers, .inr (1, [.long r1.1, .long r1.2.1, .long r1.2.2.1, .int r1.2.2.2])), (a_t_told, .inr (3, [.ref a_t_told_items, .int r50.1])), (a_t_told_items, .inl (cI, 8, .inl r50.2))]) (st1 := []) X hA (c_X6_add l G cI cZ cE a_t_told a_t_told_items 8 w33_k_t_told_size w33_f_t_told_items r47 r50 hc50) (cwV 1 hts gX10_look_X6_add rfl rfl rfl hd_X6_add ⟨Nat.le_of_ble_eq_true rfl, Nat.le_of_ble_eq_true rfl⟩) 5 3 rfl rfl hl.1 dX10_look_50 hP hD hS [5, 6] rfl rfl rfl rfl rfl [] rfl (Nat.le_of_ble_eq_true rfl) rfl ⟨Nat.zero_le _, Nat.zero_le _⟩ (fun H locs hP hD hS => ?_)
          refine lv_iinc (v := v33_4 + 1) (lv' := [(4, .int (v33_4 + 1)), (0, .ref a_t), (1, .long p1), (3, .int (mX2_reachedCount r1.2.2.2))]) hx hb dX10_look_53 hl (k := 3) rfl rfl (by decide) rfl (fun ls hl => ?_)
          refine lv_goto (tgt := 33) hx hb dX10_look_56 (by decide) ?_
          exact ih33 (v33_4 + 1) r50.1 r50.2 _ _ _ hP hD hS (lv_sub hl [1, 2, 3, 0] rfl) hm
    exact h33 kFU 0 (mX6_clear k_t_told_size) f_t_told_items _ _ _ hP hD hS (lv_sub hl [2, 3, 1, 0] rfl) hm
  · have c17 := kb0 c17
    rw [if_neg c17] at hm
    refine lv_bipush (v := (-2)) hx hb dX10_look_20 (by decide) ?_
    have hm := Option.some.inj hm
    subst hm
    exact k_iret (v := (-2)) X rfl dX10_look_22 hP hD hS
theorem hd_X10_look : yX10_look.cls = RX10 ∧ yX10_look.cls ≠ "java/lang/invoke/MethodHandle" ∧ yX10_look.cls ≠ "java/lang/invoke/VarHandle" ∧ (parseMethodDescriptor yX10_look.desc).map (fun d => d.parameters.length) = some 1 := by decide +kernel
/-! CoverOrder isDoneOrSo -/
set_option maxRecDepth 100000 in
set_option maxHeartbeats 4000000 in
theorem c_X10_isDoneOrSo (l : Launch) (G : va_G) (cI cZ cE : ClassId) (a_t a_t_text a_t_edges a_t_trial a_t_acts a_t_slots a_t_seen a_t_covers a_t_trialCovers a_t_walk a_t_least a_t_told a_t_trial_row a_t_trial_row_items a_t_walk_met a_t_walk_path a_t_walk_met_items a_t_walk_path_items : Nat) (k_t_keptSlots : Int32) (k_t_theSeed : Int64) (k_t_trial_knots : Int32) (k_t_trial_nextStamp : Int32) (k_t_trial_row_size : Int32) (f_t_trial_row_items : Nat → Int32) (k_t_trialCovers_grid : Int64) (k_t_trialCovers_covered : Int64) (k_t_trialCovers_coverers : Int64) (k_t_trialCovers_reached : Int32) (k_t_walk_grid : Int64) (k_t_walk_met_size : Int32) (f_t_walk_met_items : Nat → Int32) (k_t_walk_path_size : Int32) (f_t_walk_path_items : Nat → Int32) (p1 : Int32) (p2 : Int32) (p3 : Int32) (R : Bool × Int32 × Int32 × (Nat → Int32) × Int64 × Int64 × Int64 × Int32 × Int64 × Int32 × (Nat → Int32) × Int32 × (Nat → Int32)) (hm : mX10_isDoneOrSo k_t_trial_knots k_t_trial_nextStamp k_t_trial_row_size f_t_trial_row_items k_t_trialCovers_grid k_t_trialCovers_covered k_t_trialCovers_coverers k_t_trialCovers_reached k_t_walk_grid k_t_walk_met_size f_t_walk_met_items k_t_walk_path_size f_t_walk_path_items p1 p2 p3 = some R) : kM l yX10_isDoneOrSo wsX10_isDoneOrSo { frames := 5, cells := 0, slots := 0, locals := 113 } G cI cZ cE [.ref a_t, .int p1, .int p2, .int p3] [(a_t, .inr (7, [.ref a_t_text, .ref a_t_edges, .ref a_t_trial, .ref a_t_acts, .ref a_t_slots, .ref a_t_seen, .ref a_t_covers, .ref a_t_trialCovers, .ref a_t_walk, .ref a_t_least, .ref a_t_told, .int k_t_keptSlots, .long k_t_theSeed])), (a_t_trial, .inr (2, [.ref a_t_trial_row, .int k_t_trial_knots, .int k_t_trial_nextStamp])), (a_t_trial_row, .inr (3, [.ref a_t_trial_row_items, .int k_t_trial_row_size])), (a_t_trial_row_items, .inl (cI, 24, .inl f_t_trial_row_items)), (a_t_trialCovers, .inr (1, [.long k_t_trialCovers_grid, .long k_t_trialCovers_covered, .long k_t_trialCovers_coverers, .int k_t_trialCovers_reached])), (a_t_walk, .inr (6, [.ref a_t_walk_met, .ref a_t_walk_path, .long k_t_walk_grid])), (a_t_walk_met, .inr (3, [.ref a_t_walk_met_items, .int k_t_walk_met_size])), (a_t_walk_met_items, .inl (cI, 8, .inl f_t_walk_met_items)), (a_t_walk_path, .inr (3, [.ref a_t_walk_path_items, .int k_t_walk_path_size])), (a_t_walk_path_items, .inl (cI, 8, .inl f_t_walk_path_items))] [(a_t, .inr (7, [.ref a_t_text, .ref a_t_edges, .ref a_t_trial, .ref a_t_acts, .ref a_t_slots, .ref a_t_seen, .ref a_t_covers, .ref a_t_trialCovers, .ref a_t_walk, .ref a_t_least, .ref a_t_told, .int k_t_keptSlots, .long k_t_theSeed])), (a_t_trial, .inr (2, [.ref a_t_trial_row, .int k_t_trial_knots, .int R.2.1])), (a_t_trial_row, .inr (3, [.ref a_t_trial_row_items, .int R.2.2.1])), (a_t_trial_row_items, .inl (cI, 24, .inl R.2.2.2.1)), (a_t_trialCovers, .inr (1, [.long R.2.2.2.2.1, .long R.2.2.2.2.2.1, .long R.2.2.2.2.2.2.1, .int R.2.2.2.2.2.2.2.1])), (a_t_walk, .inr (6, [.ref a_t_walk_met, .ref a_t_walk_path, .long R.2.2.2.2.2.2.2.2.1])), (a_t_walk_met, .inr (3, [.ref a_t_walk_met_items, .int R.2.2.2.2.2.2.2.2.2.1])), (a_t_walk_met_items, .inl (cI, 8, .inl R.2.2.2.2.2.2.2.2.2.2.1)), (a_t_walk_path, .inr (3, [.ref a_t_walk_path_items, .int R.2.2.2.2.2.2.2.2.2.2.2.1])), (a_t_walk_path_items, .inl (cI, 8, .inl R.2.2.2.2.2.2.2.2.2.2.2.2))] (some (.int (bI R.1))) := by
  refine kM_of cX10_isDoneOrSo 4 (some .boolean) RX10 (by decide) rfl rfl (Nat.le_of_ble_eq_true rfl) ?_
  intro p e s m below meth c A ls X hA hP hD hS hl
  have hx := X.1.1
  have hb := X.1.2.1
  have hts := X.1.2.2.2.2
  have hown := X.1.2.2.2.1
  have hK := X.2.2.2.1
  have l_53 : (.fieldLink RX10 53 "CoverOrder" "trialCovers" "LCoverOrder$Covers;" : Cond).before _ s = true := hts _ (List.mem_of_getElem? (i := 1) (by decide +kernel))
  have i_X10 : ∀ w ∈ u_ws RX10 TX10 13, w ∈ wsX10_isDoneOrSo := k_in _ [215, 216, 217, 218, 219, 220, 221, 222, 223, 224, 225, 226, 227] (by decide +kernel)
  have l_23 : (.fieldLink RX10 23 "CoverOrder" "trial" "LCoverOrder$Edges;" : Cond).before _ s = true := hts _ (List.mem_of_getElem? (i := 2) (by decide +kernel))
  have l_59 : (.fieldLink RX10 59 "CoverOrder" "walk" "LCoverOrder$Walk;" : Cond).before _ s = true := hts _ (List.mem_of_getElem? (i := 3) (by decide +kernel))
  have hl : lv_has ls 4 [(0, .ref a_t), (1, .int p1), (2, .int p2), (3, .int p3)] := hl
  rw [mX10_isDoneOrSo] at hm
  refine lv_aload_n hx hb dX10_isDoneOrSo_0 rfl (lv_at hl 0 rfl) ?_
  refine va_get (D := G) (ci := 7) (v := .ref a_t_trialCovers) (C := RX10) (T := TX10) (N := 13) hx hb hts i_X10 hown hK hP 0 rfl rfl 7 (by decide) l_53 (fun _ h9 => h9) rfl dX10_isDoneOrSo_1 ?_
  refine lv_aload_n hx hb dX10_isDoneOrSo_4 rfl (lv_at hl 0 rfl) ?_
  refine va_get (D := G) (ci := 7) (v := .ref a_t_trial) (C := RX10) (T := TX10) (N := 13) hx hb hts i_X10 hown hK hP 0 rfl rfl 2 (by decide) l_23 (fun _ h9 => h9) rfl dX10_isDoneOrSo_5 ?_
  obtain ⟨r8, hc8, hm⟩ := kbind hm
  refine kcV0 (st1 := [.long r8, .ref a_t_trialCovers]) X hA (c_X3_grid l G cI cZ cE a_t_trial a_t_trial_row a_t_trial_row_items k_t_trial_knots k_t_trial_nextStamp k_t_trial_row_size f_t_trial_row_items r8 hc8) (cwV 0 hts gX10_isDoneOrSo_X3_grid rfl rfl rfl hd_X3_grid ⟨Nat.le_of_ble_eq_true rfl, Nat.le_of_ble_eq_true rfl⟩) 1 2 rfl rfl hl.1 dX10_isDoneOrSo_8 hP hD hS [1, 2, 3] rfl rfl rfl [.ref a_t_trialCovers] rfl (Nat.le_of_ble_eq_true rfl) rfl ⟨Nat.zero_le _, Nat.zero_le _⟩ (fun H locs hP hD hS => ?_)
  obtain ⟨r11, hc11, hm⟩ := kbind hm
  refine kcV (ws1 := [(a_t, .inr (7, [.ref a_t_text, .ref a_t_edges, .ref a_t_trial, .ref a_t_acts, .ref a_t_slots, .ref a_t_seen, .ref a_t_covers, .ref a_t_trialCovers, .ref a_t_walk, .ref a_t_least, .ref a_t_told, .int k_t_keptSlots, .long k_t_theSeed])), (a_t_trial, .inr (2, [.ref a_t_trial_row, .int k_t_trial_knots, .int k_t_trial_nextStamp])), (a_t_trial_row, .inr (3, [.ref a_t_trial_row_items, .int k_t_trial_row_size])), (a_t_trial_row_items, .inl (cI, 24, .inl f_t_trial_row_items)), (a_t_trialCovers, .inr (1, [.long r11.1, .long r11.2.1, .long r11.2.2.1, .int r11.2.2.2])), (a_t_walk, .inr (6, [.ref a_t_walk_met, .ref a_t_walk_path, .long k_t_walk_grid])), (a_t_walk_met, .inr (3, [.ref a_t_walk_met_items, .int k_t_walk_met_size])), (a_t_walk_met_items, .inl (cI, 8, .inl f_t_walk_met_items)), (a_t_walk_path, .inr (3, [.ref a_t_walk_path_items, .int k_t_walk_path_size])), (a_t_walk_path_items, .inl (cI, 8, .inl f_t_walk_path_items))]) (st1 := []) X hA (c_X2_learn l G cI cZ cE a_t_trialCovers k_t_trialCovers_grid k_t_trialCovers_covered k_t_trialCovers_coverers k_t_trialCovers_reached r8 r11 hc11) (cwV 1 hts gX10_isDoneOrSo_X2_learn rfl rfl rfl hd_X2_learn ⟨Nat.le_of_ble_eq_true rfl, Nat.le_of_ble_eq_true rfl⟩) 4 1 rfl rfl hl.1 dX10_isDoneOrSo_11 hP hD hS [4] rfl rfl rfl rfl rfl [] rfl (Nat.le_of_ble_eq_true rfl) rfl ⟨Nat.zero_le _, Nat.zero_le _⟩ (fun H locs hP hD hS => ?_)
  refine lv_iload_n hx hb dX10_isDoneOrSo_14 rfl (lv_at hl 1 rfl) ?_
  refine lv_bipush (v := 8) hx hb dX10_isDoneOrSo_15 (by decide) ?_
  refine lv_icmp_ne (tgt := 41) hx hb dX10_isDoneOrSo_17 (by decide) (fun c17 => ?_) (fun c17 => ?_)
  · rw [if_neg c17] at hm
    refine lv_iload_n hx hb dX10_isDoneOrSo_41 rfl (lv_at hl 1 rfl) ?_
    refine lv_iconst (v := 5) hx hb dX10_isDoneOrSo_42 (by decide) ?_
    refine lv_icmp_ne (tgt := 75) hx hb dX10_isDoneOrSo_43 (by decide) (fun c43 => ?_) (fun c43 => ?_)
    · rw [if_neg c43] at hm
      refine lv_aload_n hx hb dX10_isDoneOrSo_75 rfl (lv_at hl 0 rfl) ?_
      refine va_get (D := G) (ci := 7) (v := .ref a_t_trial) (C := RX10) (T := TX10) (N := 13) hx hb hts i_X10 hown hK hP 0 rfl rfl 2 (by decide) l_23 (fun _ h9 => h9) rfl dX10_isDoneOrSo_76 ?_
      refine lv_iload_n hx hb dX10_isDoneOrSo_79 rfl (lv_at hl 2 rfl) ?_
      refine lv_iload_n hx hb dX10_isDoneOrSo_80 rfl (lv_at hl 3 rfl) ?_
      refine kcV0 (st1 := [.int (bI (mX3_areKnots k_t_trial_knots p2 p3))]) X hA (c_X3_areKnots l G cI cZ cE a_t_trial a_t_trial_row k_t_trial_knots k_t_trial_nextStamp p2 p3 _ rfl) (cwV 2 hts gX10_isDoneOrSo_X3_areKnots rfl rfl rfl hd_X3_areKnots ⟨Nat.le_of_ble_eq_true rfl, Nat.le_of_ble_eq_true rfl⟩) 1 2 rfl rfl hl.1 dX10_isDoneOrSo_81 hP hD hS [1] rfl rfl rfl [] rfl (Nat.le_of_ble_eq_true rfl) rfl ⟨Nat.zero_le _, Nat.zero_le _⟩ (fun H locs hP hD hS => ?_)
      refine lv_if_ne (tgt := 89) hx hb dX10_isDoneOrSo_84 (by decide) (fun c84 => ?_) (fun c84 => ?_)
      · have c84 := kb1 c84
        rw [if_pos c84] at hm
        refine lv_iload_n hx hb dX10_isDoneOrSo_89 rfl (lv_at hl 1 rfl) ?_
        rcases Classical.em (p1 = 1) with c90_0 | c90_0
        · rw [if_pos c90_0] at hm
          refine lv_tableIn (off := 42) (tgt := 132) hx hb dX10_isDoneOrSo_90 (by rw [c90_0]; decide) (by rw [c90_0]; decide) (by rw [c90_0]; decide) (by decide) ?_
          refine lv_aload_n hx hb dX10_isDoneOrSo_132 rfl (lv_at hl 0 rfl) ?_
          refine va_get (D := G) (ci := 7) (v := .ref a_t_trial) (C := RX10) (T := TX10) (N := 13) hx hb hts i_X10 hown hK hP 0 rfl rfl 2 (by decide) l_23 (fun _ h9 => h9) rfl dX10_isDoneOrSo_133 ?_
          refine lv_iload_n hx hb dX10_isDoneOrSo_136 rfl (lv_at hl 2 rfl) ?_
          refine lv_iload_n hx hb dX10_isDoneOrSo_137 rfl (lv_at hl 3 rfl) ?_
          obtain ⟨r138, hc138, hm⟩ := kbind hm
          refine kcV (ws1 := [(a_t, .inr (7, [.ref a_t_text, .ref a_t_edges, .ref a_t_trial, .ref a_t_acts, .ref a_t_slots, .ref a_t_seen, .ref a_t_covers, .ref a_t_trialCovers, .ref a_t_walk, .ref a_t_least, .ref a_t_told, .int k_t_keptSlots, .long k_t_theSeed])), (a_t_trial, .inr (2, [.ref a_t_trial_row, .int k_t_trial_knots, .int r138.2.1])), (a_t_trial_row, .inr (3, [.ref a_t_trial_row_items, .int r138.2.2.1])), (a_t_trial_row_items, .inl (cI, 24, .inl r138.2.2.2)), (a_t_trialCovers, .inr (1, [.long r11.1, .long r11.2.1, .long r11.2.2.1, .int r11.2.2.2])), (a_t_walk, .inr (6, [.ref a_t_walk_met, .ref a_t_walk_path, .long k_t_walk_grid])), (a_t_walk_met, .inr (3, [.ref a_t_walk_met_items, .int k_t_walk_met_size])), (a_t_walk_met_items, .inl (cI, 8, .inl f_t_walk_met_items)), (a_t_walk_path, .inr (3, [.ref a_t_walk_path_items, .int k_t_walk_path_size])), (a_t_walk_path_items, .inl (cI, 8, .inl f_t_walk_path_items))]) (st1 := [.int (bI r138.1)]) X hA (c_X3_insertIfItCanBe l G cI cZ cE a_t_trial a_t_trial_row a_t_trial_row_items k_t_trial_knots k_t_trial_nextStamp k_t_trial_row_size f_t_trial_row_items p2 p3 r138 hc138) (cwV 2 hts gX10_isDoneOrSo_X3_insertIfItCanBe rfl rfl rfl hd_X3_insertIfItCanBe ⟨Nat.le_of_ble_eq_true rfl, Nat.le_of_ble_eq_true rfl⟩) 1 2 rfl rfl hl.1 dX10_isDoneOrSo_138 hP hD hS [1, 2, 3] rfl rfl rfl rfl rfl [] rfl (Nat.le_of_ble_eq_true rfl) rfl ⟨Nat.zero_le _, Nat.zero_le _⟩ (fun H locs hP hD hS => ?_)
          have hm := Option.some.inj hm
          subst hm
          exact k_zret (v := r138.1) X rfl dX10_isDoneOrSo_141 hP hD hS
        rw [if_neg c90_0] at hm
        rcases Classical.em (p1 = 2) with c90_1 | c90_1
        · rw [if_pos c90_1] at hm
          refine lv_tableIn (off := 52) (tgt := 142) hx hb dX10_isDoneOrSo_90 (by rw [c90_1]; decide) (by rw [c90_1]; decide) (by rw [c90_1]; decide) (by decide) ?_
          refine lv_aload_n hx hb dX10_isDoneOrSo_142 rfl (lv_at hl 0 rfl) ?_
          refine va_get (D := G) (ci := 7) (v := .ref a_t_trial) (C := RX10) (T := TX10) (N := 13) hx hb hts i_X10 hown hK hP 0 rfl rfl 2 (by decide) l_23 (fun _ h9 => h9) rfl dX10_isDoneOrSo_143 ?_
          refine lv_iload_n hx hb dX10_isDoneOrSo_146 rfl (lv_at hl 2 rfl) ?_
          refine lv_iload_n hx hb dX10_isDoneOrSo_147 rfl (lv_at hl 3 rfl) ?_
          obtain ⟨r148, hc148, hm⟩ := kbind hm
          refine kcV (ws1 := [(a_t, .inr (7, [.ref a_t_text, .ref a_t_edges, .ref a_t_trial, .ref a_t_acts, .ref a_t_slots, .ref a_t_seen, .ref a_t_covers, .ref a_t_trialCovers, .ref a_t_walk, .ref a_t_least, .ref a_t_told, .int k_t_keptSlots, .long k_t_theSeed])), (a_t_trial, .inr (2, [.ref a_t_trial_row, .int k_t_trial_knots, .int k_t_trial_nextStamp])), (a_t_trial_row, .inr (3, [.ref a_t_trial_row_items, .int r148.2.1])), (a_t_trial_row_items, .inl (cI, 24, .inl r148.2.2)), (a_t_trialCovers, .inr (1, [.long r11.1, .long r11.2.1, .long r11.2.2.1, .int r11.2.2.2])), (a_t_walk, .inr (6, [.ref a_t_walk_met, .ref a_t_walk_path, .long k_t_walk_grid])), (a_t_walk_met, .inr (3, [.ref a_t_walk_met_items, .int k_t_walk_met_size])), (a_t_walk_met_items, .inl (cI, 8, .inl f_t_walk_met_items)), (a_t_walk_path, .inr (3, [.ref a_t_walk_path_items, .int k_t_walk_path_size])), (a_t_walk_path_items, .inl (cI, 8, .inl f_t_walk_path_items))]) (st1 := [.int (bI r148.1)]) X hA (c_X3_deleteIfItIsThere l G cI cZ cE a_t_trial a_t_trial_row a_t_trial_row_items k_t_trial_knots k_t_trial_nextStamp k_t_trial_row_size f_t_trial_row_items p2 p3 r148 hc148) (cwV 2 hts gX10_isDoneOrSo_X3_deleteIfItIsThere rfl rfl rfl hd_X3_deleteIfItIsThere ⟨Nat.le_of_ble_eq_true rfl, Nat.le_of_ble_eq_true rfl⟩) 1 2 rfl rfl hl.1 dX10_isDoneOrSo_148 hP hD hS [1, 2, 3] rfl rfl rfl rfl rfl [] rfl (Nat.le_of_ble_eq_true rfl) rfl ⟨Nat.zero_le _, Nat.zero_le _⟩ (fun H locs hP hD hS => ?_)
          have hm := Option.some.inj hm
          subst hm
          exact k_zret (v := r148.1) X rfl dX10_isDoneOrSo_151 hP hD hS
        rw [if_neg c90_1] at hm
        rcases Classical.em (p1 = 3) with c90_2 | c90_2
        · rw [if_pos c90_2] at hm
          refine lv_tableIn (off := 62) (tgt := 152) hx hb dX10_isDoneOrSo_90 (by rw [c90_2]; decide) (by rw [c90_2]; decide) (by rw [c90_2]; decide) (by decide) ?_
          refine lv_aload_n hx hb dX10_isDoneOrSo_152 rfl (lv_at hl 0 rfl) ?_
          refine va_get (D := G) (ci := 7) (v := .ref a_t_trialCovers) (C := RX10) (T := TX10) (N := 13) hx hb hts i_X10 hown hK hP 0 rfl rfl 7 (by decide) l_53 (fun _ h9 => h9) rfl dX10_isDoneOrSo_153 ?_
          refine lv_iload_n hx hb dX10_isDoneOrSo_156 rfl (lv_at hl 2 rfl) ?_
          refine kcV0 (st1 := [.int (mX2_coveredBy r11.2.1 p2)]) X hA (c_X2_coveredBy l G cI cZ cE a_t_trialCovers r11.1 r11.2.1 r11.2.2.1 r11.2.2.2 p2 _ rfl) (cwV 1 hts gX10_isDoneOrSo_X2_coveredBy rfl rfl rfl hd_X2_coveredBy ⟨Nat.le_of_ble_eq_true rfl, Nat.le_of_ble_eq_true rfl⟩) 4 1 rfl rfl hl.1 dX10_isDoneOrSo_157 hP hD hS [4] rfl rfl rfl [] rfl (Nat.le_of_ble_eq_true rfl) rfl ⟨Nat.zero_le _, Nat.zero_le _⟩ (fun H locs hP hD hS => ?_)
          refine lv_iload_n hx hb dX10_isDoneOrSo_160 rfl (lv_at hl 3 rfl) ?_
          refine kcS0 (st1 := [.int (bI (mX5_isIn (mX2_coveredBy r11.2.1 p2) p3))]) X hA (c_X5_isIn l G cI cZ cE (mX2_coveredBy r11.2.1 p2) p3 _ rfl) (va_cwS 2 hts gX10_isDoneOrSo_X5_isIn rfl rfl rfl hd_X5_isIn ⟨Nat.le_of_ble_eq_true rfl, Nat.le_of_ble_eq_true rfl⟩) hl.1 dX10_isDoneOrSo_161 hP hD hS [] rfl rfl rfl [] rfl (Nat.le_of_ble_eq_true rfl) rfl ⟨Nat.zero_le _, Nat.zero_le _⟩ (fun H locs hP hD hS => ?_)
          have hm := Option.some.inj hm
          subst hm
          exact k_zret (v := (mX5_isIn (mX2_coveredBy r11.2.1 p2) p3)) X rfl dX10_isDoneOrSo_164 hP hD hS
        rw [if_neg c90_2] at hm
        rcases Classical.em (p1 = 4) with c90_3 | c90_3
        · rw [if_pos c90_3] at hm
          refine lv_tableIn (off := 75) (tgt := 165) hx hb dX10_isDoneOrSo_90 (by rw [c90_3]; decide) (by rw [c90_3]; decide) (by rw [c90_3]; decide) (by decide) ?_
          refine lv_aload_n hx hb dX10_isDoneOrSo_165 rfl (lv_at hl 0 rfl) ?_
          refine va_get (D := G) (ci := 7) (v := .ref a_t_trialCovers) (C := RX10) (T := TX10) (N := 13) hx hb hts i_X10 hown hK hP 0 rfl rfl 7 (by decide) l_53 (fun _ h9 => h9) rfl dX10_isDoneOrSo_166 ?_
          refine lv_iload_n hx hb dX10_isDoneOrSo_169 rfl (lv_at hl 3 rfl) ?_
          obtain ⟨r170, hc170, hm⟩ := kbind hm
          refine kcV0 (st1 := [.int r170]) X hA (c_X2_lidOf l G cI cZ cE a_t_trialCovers r11.1 r11.2.1 r11.2.2.1 r11.2.2.2 p3 r170 hc170) (cwV 1 hts gX10_isDoneOrSo_X2_lidOf rfl rfl rfl hd_X2_lidOf ⟨Nat.le_of_ble_eq_true rfl, Nat.le_of_ble_eq_true rfl⟩) 4 1 rfl rfl hl.1 dX10_isDoneOrSo_170 hP hD hS [4] rfl rfl rfl [] rfl (Nat.le_of_ble_eq_true rfl) rfl ⟨Nat.zero_le _, Nat.zero_le _⟩ (fun H locs hP hD hS => ?_)
          refine lv_iload_n hx hb dX10_isDoneOrSo_173 rfl (lv_at hl 2 rfl) ?_
          refine lv_icmp_ne (tgt := 181) hx hb dX10_isDoneOrSo_174 (by decide) (fun c174 => ?_) (fun c174 => ?_)
          · rw [if_neg c174] at hm
            refine lv_iconst (v := 0) hx hb dX10_isDoneOrSo_181 (by decide) ?_
            have hm := Option.some.inj hm
            subst hm
            exact k_zret (v := false) X rfl dX10_isDoneOrSo_182 hP hD hS
          · rw [if_pos c174] at hm
            refine lv_iconst (v := 1) hx hb dX10_isDoneOrSo_177 (by decide) ?_
            refine lv_goto (tgt := 182) hx hb dX10_isDoneOrSo_178 (by decide) ?_
            have hm := Option.some.inj hm
            subst hm
            exact k_zret (v := true) X rfl dX10_isDoneOrSo_182 hP hD hS
        rw [if_neg c90_3] at hm
        rcases Classical.em (p1 = 6) with c90_5 | c90_5
        · rw [if_pos c90_5] at hm
          refine lv_tableIn (off := 93) (tgt := 183) hx hb dX10_isDoneOrSo_90 (by rw [c90_5]; decide) (by rw [c90_5]; decide) (by rw [c90_5]; decide) (by decide) ?_
          refine lv_aload_n hx hb dX10_isDoneOrSo_183 rfl (lv_at hl 0 rfl) ?_
          refine va_get (D := G) (ci := 7) (v := .ref a_t_walk) (C := RX10) (T := TX10) (N := 13) hx hb hts i_X10 hown hK hP 0 rfl rfl 8 (by decide) l_59 (fun _ h9 => h9) rfl dX10_isDoneOrSo_184 ?_
          refine lv_aload_n hx hb dX10_isDoneOrSo_187 rfl (lv_at hl 0 rfl) ?_
          refine va_get (D := G) (ci := 7) (v := .ref a_t_trial) (C := RX10) (T := TX10) (N := 13) hx hb hts i_X10 hown hK hP 0 rfl rfl 2 (by decide) l_23 (fun _ h9 => h9) rfl dX10_isDoneOrSo_188 ?_
          obtain ⟨r191, hc191, hm⟩ := kbind hm
          refine kcV (ws1 := [(a_t, .inr (7, [.ref a_t_text, .ref a_t_edges, .ref a_t_trial, .ref a_t_acts, .ref a_t_slots, .ref a_t_seen, .ref a_t_covers, .ref a_t_trialCovers, .ref a_t_walk, .ref a_t_least, .ref a_t_told, .int k_t_keptSlots, .long k_t_theSeed])), (a_t_trial, .inr (2, [.ref a_t_trial_row, .int k_t_trial_knots, .int k_t_trial_nextStamp])), (a_t_trial_row, .inr (3, [.ref a_t_trial_row_items, .int k_t_trial_row_size])), (a_t_trial_row_items, .inl (cI, 24, .inl f_t_trial_row_items)), (a_t_trialCovers, .inr (1, [.long r11.1, .long r11.2.1, .long r11.2.2.1, .int r11.2.2.2])), (a_t_walk, .inr (6, [.ref a_t_walk_met, .ref a_t_walk_path, .long r191.1])), (a_t_walk_met, .inr (3, [.ref a_t_walk_met_items, .int r191.2.1])), (a_t_walk_met_items, .inl (cI, 8, .inl r191.2.2.1)), (a_t_walk_path, .inr (3, [.ref a_t_walk_path_items, .int r191.2.2.2.1])), (a_t_walk_path_items, .inl (cI, 8, .inl r191.2.2.2.2))]) (st1 := []) X hA (c_X9_go l G cI cZ cE a_t_walk a_t_walk_met a_t_walk_path a_t_walk_met_items a_t_walk_path_items a_t_trial a_t_trial_row a_t_trial_row_items k_t_walk_grid k_t_walk_met_size f_t_walk_met_items k_t_walk_path_size f_t_walk_path_items k_t_trial_knots k_t_trial_nextStamp k_t_trial_row_size f_t_trial_row_items r191 hc191) (cwV 1 hts gX10_isDoneOrSo_X9_go rfl rfl rfl hd_X9_go ⟨Nat.le_of_ble_eq_true rfl, Nat.le_of_ble_eq_true rfl⟩) 5 6 rfl rfl hl.1 dX10_isDoneOrSo_191 hP hD hS [5, 6, 7, 8, 9, 1, 2, 3] rfl rfl rfl rfl rfl [] rfl (Nat.le_of_ble_eq_true rfl) rfl ⟨Nat.zero_le _, Nat.zero_le _⟩ (fun H locs hP hD hS => ?_)
          refine lv_aload_n hx hb dX10_isDoneOrSo_194 rfl (lv_at hl 0 rfl) ?_
          refine va_get (D := G) (ci := 7) (v := .ref a_t_walk) (C := RX10) (T := TX10) (N := 13) hx hb hts i_X10 hown hK hP 0 rfl rfl 8 (by decide) l_59 (fun _ h9 => h9) rfl dX10_isDoneOrSo_195 ?_
          refine lv_iload_n hx hb dX10_isDoneOrSo_198 rfl (lv_at hl 3 rfl) ?_
          obtain ⟨r199, hc199, hm⟩ := kbind hm
          refine kcV0 (st1 := [.int r199]) X hA (c_X9_halfOf l G cI cZ cE a_t_walk a_t_walk_met a_t_walk_path a_t_walk_met_items r191.1 r191.2.1 r191.2.2.1 p3 r199 hc199) (cwV 1 hts gX10_isDoneOrSo_X9_halfOf rfl rfl rfl hd_X9_halfOf ⟨Nat.le_of_ble_eq_true rfl, Nat.le_of_ble_eq_true rfl⟩) 5 6 rfl rfl hl.1 dX10_isDoneOrSo_199 hP hD hS [5, 6, 7] rfl rfl rfl [] rfl (Nat.le_of_ble_eq_true rfl) rfl ⟨Nat.zero_le _, Nat.zero_le _⟩ (fun H locs hP hD hS => ?_)
          refine lv_iload_n hx hb dX10_isDoneOrSo_202 rfl (lv_at hl 2 rfl) ?_
          refine lv_icmp_ne (tgt := 210) hx hb dX10_isDoneOrSo_203 (by decide) (fun c203 => ?_) (fun c203 => ?_)
          · rw [if_neg c203] at hm
            refine lv_iconst (v := 0) hx hb dX10_isDoneOrSo_210 (by decide) ?_
            have hm := Option.some.inj hm
            subst hm
            exact k_zret (v := false) X rfl dX10_isDoneOrSo_211 hP hD hS
          · rw [if_pos c203] at hm
            refine lv_iconst (v := 1) hx hb dX10_isDoneOrSo_206 (by decide) ?_
            refine lv_goto (tgt := 211) hx hb dX10_isDoneOrSo_207 (by decide) ?_
            have hm := Option.some.inj hm
            subst hm
            exact k_zret (v := true) X rfl dX10_isDoneOrSo_211 hP hD hS
        rw [if_neg c90_5] at hm
        rcases Classical.em (p1 = 7) with c90_6 | c90_6
        · rw [if_pos c90_6] at hm
          refine lv_tableIn (off := 122) (tgt := 212) hx hb dX10_isDoneOrSo_90 (by rw [c90_6]; decide) (by rw [c90_6]; decide) (by rw [c90_6]; decide) (by decide) ?_
          refine lv_aload_n hx hb dX10_isDoneOrSo_212 rfl (lv_at hl 0 rfl) ?_
          refine va_get (D := G) (ci := 7) (v := .ref a_t_trialCovers) (C := RX10) (T := TX10) (N := 13) hx hb hts i_X10 hown hK hP 0 rfl rfl 7 (by decide) l_53 (fun _ h9 => h9) rfl dX10_isDoneOrSo_213 ?_
          refine lv_iload_n hx hb dX10_isDoneOrSo_216 rfl (lv_at hl 2 rfl) ?_
          obtain ⟨r217, hc217, hm⟩ := kbind hm
          refine kcV0 (st1 := [.int r217]) X hA (c_X2_rimOf l G cI cZ cE a_t_trialCovers r11.1 r11.2.1 r11.2.2.1 r11.2.2.2 p2 r217 hc217) (cwV 1 hts gX10_isDoneOrSo_X2_rimOf rfl rfl rfl hd_X2_rimOf ⟨Nat.le_of_ble_eq_true rfl, Nat.le_of_ble_eq_true rfl⟩) 4 1 rfl rfl hl.1 dX10_isDoneOrSo_217 hP hD hS [4] rfl rfl rfl [] rfl (Nat.le_of_ble_eq_true rfl) rfl ⟨Nat.zero_le _, Nat.zero_le _⟩ (fun H locs hP hD hS => ?_)
          refine lv_iload_n hx hb dX10_isDoneOrSo_220 rfl (lv_at hl 3 rfl) ?_
          refine kcS0 (st1 := [.int (bI (mX5_isIn r217 p3))]) X hA (c_X5_isIn l G cI cZ cE r217 p3 _ rfl) (va_cwS 2 hts gX10_isDoneOrSo_X5_isIn rfl rfl rfl hd_X5_isIn ⟨Nat.le_of_ble_eq_true rfl, Nat.le_of_ble_eq_true rfl⟩) hl.1 dX10_isDoneOrSo_221 hP hD hS [] rfl rfl rfl [] rfl (Nat.le_of_ble_eq_true rfl) rfl ⟨Nat.zero_le _, Nat.zero_le _⟩ (fun H locs hP hD hS => ?_)
          have hm := Option.some.inj hm
          subst hm
          exact k_zret (v := (mX5_isIn r217 p3)) X rfl dX10_isDoneOrSo_224 hP hD hS
        rw [if_neg c90_6] at hm
        refine k_tableDef (tgt := 225) hx hb dX10_isDoneOrSo_90 (by
          have z0 : Int32.toInt p1 ≠ 1 := fun h => c90_0 (Int32.toInt_inj.mp (h.trans (by decide)))
          have z1 : Int32.toInt p1 ≠ 2 := fun h => c90_1 (Int32.toInt_inj.mp (h.trans (by decide)))
          have z2 : Int32.toInt p1 ≠ 3 := fun h => c90_2 (Int32.toInt_inj.mp (h.trans (by decide)))
          have z3 : Int32.toInt p1 ≠ 4 := fun h => c90_3 (Int32.toInt_inj.mp (h.trans (by decide)))
          by_cases z4 : Int32.toInt p1 = 5
          · exact Or.inr (Or.inr ⟨by omega, by omega, by rw [z4]; rfl⟩)
          have z5 : Int32.toInt p1 ≠ 6 := fun h => c90_5 (Int32.toInt_inj.mp (h.trans (by decide)))
          have z6 : Int32.toInt p1 ≠ 7 := fun h => c90_6 (Int32.toInt_inj.mp (h.trans (by decide)))
          rcases (show Int32.toInt p1 < 1 ∨ 7 < Int32.toInt p1 by omega) with h | h
          · exact Or.inl h
          · exact Or.inr (Or.inl h)) (by decide) ?_
        refine lv_iconst (v := 0) hx hb dX10_isDoneOrSo_225 (by decide) ?_
        have hm := Option.some.inj hm
        subst hm
        exact k_zret (v := false) X rfl dX10_isDoneOrSo_226 hP hD hS
      · have c84 := kb0 c84
        rw [if_neg c84] at hm
        refine lv_iconst (v := 0) hx hb dX10_isDoneOrSo_87 (by decide) ?_
        have hm := Option.some.inj hm
        subst hm
        exact k_zret (v := false) X rfl dX10_isDoneOrSo_88 hP hD hS
    · rw [if_pos c43] at hm
      refine lv_aload_n hx hb dX10_isDoneOrSo_46 rfl (lv_at hl 0 rfl) ?_
      refine va_get (D := G) (ci := 7) (v := .ref a_t_trial) (C := RX10) (T := TX10) (N := 13) hx hb hts i_X10 hown hK hP 0 rfl rfl 2 (by decide) l_23 (fun _ h9 => h9) rfl dX10_isDoneOrSo_47 ?_
      refine lv_iload_n hx hb dX10_isDoneOrSo_50 rfl (lv_at hl 2 rfl) ?_
      refine kcV0 (st1 := [.int (bI (mX3_isKnot k_t_trial_knots p2))]) X hA (c_X3_isKnot l G cI cZ cE a_t_trial a_t_trial_row k_t_trial_knots k_t_trial_nextStamp p2 _ rfl) (cwV 1 hts gX10_isDoneOrSo_X3_isKnot rfl rfl rfl hd_X3_isKnot ⟨Nat.le_of_ble_eq_true rfl, Nat.le_of_ble_eq_true rfl⟩) 1 2 rfl rfl hl.1 dX10_isDoneOrSo_51 hP hD hS [1] rfl rfl rfl [] rfl (Nat.le_of_ble_eq_true rfl) rfl ⟨Nat.zero_le _, Nat.zero_le _⟩ (fun H locs hP hD hS => ?_)
      refine lv_if_eq (tgt := 73) hx hb dX10_isDoneOrSo_54 (by decide) (fun c54 => ?_) (fun c54 => ?_)
      · have c54 := kb0 c54
        rw [if_neg c54] at hm
        refine lv_iconst (v := 0) hx hb dX10_isDoneOrSo_73 (by decide) ?_
        have hm := Option.some.inj hm
        subst hm
        exact k_zret (v := false) X rfl dX10_isDoneOrSo_74 hP hD hS
      · have c54 := kb1 c54
        rw [if_pos c54] at hm
        refine lv_aload_n hx hb dX10_isDoneOrSo_57 rfl (lv_at hl 0 rfl) ?_
        refine va_get (D := G) (ci := 7) (v := .ref a_t_trialCovers) (C := RX10) (T := TX10) (N := 13) hx hb hts i_X10 hown hK hP 0 rfl rfl 7 (by decide) l_53 (fun _ h9 => h9) rfl dX10_isDoneOrSo_58 ?_
        refine lv_iload_n hx hb dX10_isDoneOrSo_61 rfl (lv_at hl 2 rfl) ?_
        refine kcV0 (st1 := [.int (mX2_depthOf r11.2.2.1 r11.2.2.2 p2)]) X hA (c_X2_depthOf l G cI cZ cE a_t_trialCovers r11.1 r11.2.1 r11.2.2.1 r11.2.2.2 p2 _ rfl) (cwV 1 hts gX10_isDoneOrSo_X2_depthOf rfl rfl rfl hd_X2_depthOf ⟨Nat.le_of_ble_eq_true rfl, Nat.le_of_ble_eq_true rfl⟩) 4 1 rfl rfl hl.1 dX10_isDoneOrSo_62 hP hD hS [4] rfl rfl rfl [] rfl (Nat.le_of_ble_eq_true rfl) rfl ⟨Nat.zero_le _, Nat.zero_le _⟩ (fun H locs hP hD hS => ?_)
        refine lv_iload_n hx hb dX10_isDoneOrSo_65 rfl (lv_at hl 3 rfl) ?_
        refine lv_icmp_ne (tgt := 73) hx hb dX10_isDoneOrSo_66 (by decide) (fun c66 => ?_) (fun c66 => ?_)
        · rw [if_neg c66] at hm
          refine lv_iconst (v := 0) hx hb dX10_isDoneOrSo_73 (by decide) ?_
          have hm := Option.some.inj hm
          subst hm
          exact k_zret (v := false) X rfl dX10_isDoneOrSo_74 hP hD hS
        · rw [if_pos c66] at hm
          refine lv_iconst (v := 1) hx hb dX10_isDoneOrSo_69 (by decide) ?_
          refine lv_goto (tgt := 74) hx hb dX10_isDoneOrSo_70 (by decide) ?_
          have hm := Option.some.inj hm
          subst hm
          exact k_zret (v := true) X rfl dX10_isDoneOrSo_74 hP hD hS
  · rw [if_pos c17] at hm
    refine lv_iload_n hx hb dX10_isDoneOrSo_20 rfl (lv_at hl 2 rfl) ?_
    refine lv_if_ne (tgt := 39) hx hb dX10_isDoneOrSo_21 (by decide) (fun c21 => ?_) (fun c21 => ?_)
    · rw [if_neg c21] at hm
      refine lv_iconst (v := 0) hx hb dX10_isDoneOrSo_39 (by decide) ?_
      have hm := Option.some.inj hm
      subst hm
      exact k_zret (v := false) X rfl dX10_isDoneOrSo_40 hP hD hS
    · rw [if_pos c21] at hm
      refine lv_aload_n hx hb dX10_isDoneOrSo_24 rfl (lv_at hl 0 rfl) ?_
      refine va_get (D := G) (ci := 7) (v := .ref a_t_trialCovers) (C := RX10) (T := TX10) (N := 13) hx hb hts i_X10 hown hK hP 0 rfl rfl 7 (by decide) l_53 (fun _ h9 => h9) rfl dX10_isDoneOrSo_25 ?_
      refine kcV0 (st1 := [.int (mX2_reachedCount r11.2.2.2)]) X hA (c_X2_reachedCount l G cI cZ cE a_t_trialCovers r11.1 r11.2.1 r11.2.2.1 r11.2.2.2 _ rfl) (cwV 0 hts gX10_isDoneOrSo_X2_reachedCount rfl rfl rfl hd_X2_reachedCount ⟨Nat.le_of_ble_eq_true rfl, Nat.le_of_ble_eq_true rfl⟩) 4 1 rfl rfl hl.1 dX10_isDoneOrSo_28 hP hD hS [4] rfl rfl rfl [] rfl (Nat.le_of_ble_eq_true rfl) rfl ⟨Nat.zero_le _, Nat.zero_le _⟩ (fun H locs hP hD hS => ?_)
      refine lv_iload_n hx hb dX10_isDoneOrSo_31 rfl (lv_at hl 3 rfl) ?_
      refine lv_icmp_lt (tgt := 39) hx hb dX10_isDoneOrSo_32 (by decide) (fun c32 => ?_) (fun c32 => ?_)
      · rw [if_pos c32] at hm
        refine lv_iconst (v := 0) hx hb dX10_isDoneOrSo_39 (by decide) ?_
        have hm := Option.some.inj hm
        subst hm
        exact k_zret (v := false) X rfl dX10_isDoneOrSo_40 hP hD hS
      · rw [if_neg c32] at hm
        refine lv_iconst (v := 1) hx hb dX10_isDoneOrSo_35 (by decide) ?_
        refine lv_goto (tgt := 40) hx hb dX10_isDoneOrSo_36 (by decide) ?_
        have hm := Option.some.inj hm
        subst hm
        exact k_zret (v := true) X rfl dX10_isDoneOrSo_40 hP hD hS
theorem hd_X10_isDoneOrSo : yX10_isDoneOrSo.cls = RX10 ∧ yX10_isDoneOrSo.cls ≠ "java/lang/invoke/MethodHandle" ∧ yX10_isDoneOrSo.cls ≠ "java/lang/invoke/VarHandle" ∧ (parseMethodDescriptor yX10_isDoneOrSo.desc).map (fun d => d.parameters.length) = some 3 := by decide +kernel
/-! CoverOrder judge -/
set_option maxRecDepth 100000 in
set_option maxHeartbeats 4000000 in
theorem c_X10_judge (l : Launch) (G : va_G) (cI cZ cE : ClassId) (a_t a_t_text a_t_edges a_t_trial a_t_acts a_t_slots a_t_seen a_t_covers a_t_trialCovers a_t_walk a_t_least a_t_told a_t_edges_row a_t_edges_row_items a_t_trial_row a_t_trial_row_items a_t_walk_met a_t_walk_path a_t_walk_met_items a_t_walk_path_items : Nat) (k_t_keptSlots : Int32) (k_t_theSeed : Int64) (k_t_edges_knots : Int32) (k_t_edges_nextStamp : Int32) (k_t_edges_row_size : Int32) (f_t_edges_row_items : Nat → Int32) (k_t_trial_knots : Int32) (k_t_trial_nextStamp : Int32) (k_t_trial_row_size : Int32) (f_t_trial_row_items : Nat → Int32) (k_t_trialCovers_grid : Int64) (k_t_trialCovers_covered : Int64) (k_t_trialCovers_coverers : Int64) (k_t_trialCovers_reached : Int32) (k_t_walk_grid : Int64) (k_t_walk_met_size : Int32) (f_t_walk_met_items : Nat → Int32) (k_t_walk_path_size : Int32) (f_t_walk_path_items : Nat → Int32) (p1 : Int32) (p2 : Int64) (R : Int32 × Int32 × Int32 × Int32 × (Nat → Int32) × Int64 × Int64 × Int64 × Int32 × Int64 × Int32 × (Nat → Int32) × Int32 × (Nat → Int32)) (hm : mX10_judge k_t_edges_knots k_t_edges_nextStamp k_t_edges_row_size f_t_edges_row_items k_t_trial_knots k_t_trial_nextStamp k_t_trial_row_size f_t_trial_row_items k_t_trialCovers_grid k_t_trialCovers_covered k_t_trialCovers_coverers k_t_trialCovers_reached k_t_walk_grid k_t_walk_met_size f_t_walk_met_items k_t_walk_path_size f_t_walk_path_items p1 p2 = some R) : kM l yX10_judge wsX10_judge { frames := 6, cells := 0, slots := 0, locals := 136 } G cI cZ cE [.ref a_t, .int p1, .long p2] [(a_t, .inr (7, [.ref a_t_text, .ref a_t_edges, .ref a_t_trial, .ref a_t_acts, .ref a_t_slots, .ref a_t_seen, .ref a_t_covers, .ref a_t_trialCovers, .ref a_t_walk, .ref a_t_least, .ref a_t_told, .int k_t_keptSlots, .long k_t_theSeed])), (a_t_edges, .inr (2, [.ref a_t_edges_row, .int k_t_edges_knots, .int k_t_edges_nextStamp])), (a_t_edges_row, .inr (3, [.ref a_t_edges_row_items, .int k_t_edges_row_size])), (a_t_edges_row_items, .inl (cI, 24, .inl f_t_edges_row_items)), (a_t_trial, .inr (2, [.ref a_t_trial_row, .int k_t_trial_knots, .int k_t_trial_nextStamp])), (a_t_trial_row, .inr (3, [.ref a_t_trial_row_items, .int k_t_trial_row_size])), (a_t_trial_row_items, .inl (cI, 24, .inl f_t_trial_row_items)), (a_t_trialCovers, .inr (1, [.long k_t_trialCovers_grid, .long k_t_trialCovers_covered, .long k_t_trialCovers_coverers, .int k_t_trialCovers_reached])), (a_t_walk, .inr (6, [.ref a_t_walk_met, .ref a_t_walk_path, .long k_t_walk_grid])), (a_t_walk_met, .inr (3, [.ref a_t_walk_met_items, .int k_t_walk_met_size])), (a_t_walk_met_items, .inl (cI, 8, .inl f_t_walk_met_items)), (a_t_walk_path, .inr (3, [.ref a_t_walk_path_items, .int k_t_walk_path_size])), (a_t_walk_path_items, .inl (cI, 8, .inl f_t_walk_path_items))] [(a_t, .inr (7, [.ref a_t_text, .ref a_t_edges, .ref a_t_trial, .ref a_t_acts, .ref a_t_slots, .ref a_t_seen, .ref a_t_covers, .ref a_t_trialCovers, .ref a_t_walk, .ref a_t_least, .ref a_t_told, .int k_t_keptSlots, .long k_t_theSeed])), (a_t_edges, .inr (2, [.ref a_t_edges_row, .int k_t_edges_knots, .int k_t_edges_nextStamp])), (a_t_edges_row, .inr (3, [.ref a_t_edges_row_items, .int k_t_edges_row_size])), (a_t_edges_row_items, .inl (cI, 24, .inl f_t_edges_row_items)), (a_t_trial, .inr (2, [.ref a_t_trial_row, .int R.2.1, .int R.2.2.1])), (a_t_trial_row, .inr (3, [.ref a_t_trial_row_items, .int R.2.2.2.1])), (a_t_trial_row_items, .inl (cI, 24, .inl R.2.2.2.2.1)), (a_t_trialCovers, .inr (1, [.long R.2.2.2.2.2.1, .long R.2.2.2.2.2.2.1, .long R.2.2.2.2.2.2.2.1, .int R.2.2.2.2.2.2.2.2.1])), (a_t_walk, .inr (6, [.ref a_t_walk_met, .ref a_t_walk_path, .long R.2.2.2.2.2.2.2.2.2.1])), (a_t_walk_met, .inr (3, [.ref a_t_walk_met_items, .int R.2.2.2.2.2.2.2.2.2.2.1])), (a_t_walk_met_items, .inl (cI, 8, .inl R.2.2.2.2.2.2.2.2.2.2.2.1)), (a_t_walk_path, .inr (3, [.ref a_t_walk_path_items, .int R.2.2.2.2.2.2.2.2.2.2.2.2.1])), (a_t_walk_path_items, .inl (cI, 8, .inl R.2.2.2.2.2.2.2.2.2.2.2.2.2))] (some (.int R.1)) := by
  refine kM_of cX10_judge 10 (some .int) RX10 (by decide) rfl rfl (Nat.le_of_ble_eq_true rfl) ?_
  intro p e s m below meth c A ls X hA hP hD hS hl
  have hx := X.1.1
  have hb := X.1.2.1
  have hts := X.1.2.2.2.2
  have hown := X.1.2.2.2.1
  have hK := X.2.2.2.1
  have l_23 : (.fieldLink RX10 23 "CoverOrder" "trial" "LCoverOrder$Edges;" : Cond).before _ s = true := hts _ (List.mem_of_getElem? (i := 1) (by decide +kernel))
  have i_X10 : ∀ w ∈ u_ws RX10 TX10 13, w ∈ wsX10_judge := k_in _ [239, 240, 241, 242, 243, 244, 245, 246, 247, 248, 249, 250, 251] (by decide +kernel)
  have l_19 : (.fieldLink RX10 19 "CoverOrder" "edges" "LCoverOrder$Edges;" : Cond).before _ s = true := hts _ (List.mem_of_getElem? (i := 2) (by decide +kernel))
  have hl : lv_has ls 10 [(0, .ref a_t), (1, .int p1), (2, .long p2)] := hl
  rw [mX10_judge] at hm
  refine lv_iload_n hx hb dX10_judge_0 rfl (lv_at hl 1 rfl) ?_
  refine lv_iconst (v := 1) hx hb dX10_judge_1 (by decide) ?_
  refine lv_icmp_lt (tgt := 10) hx hb dX10_judge_2 (by decide) (fun c2 => ?_) (fun c2 => ?_)
  · rw [if_pos c2] at hm
    refine lv_bipush (v := (-2)) hx hb dX10_judge_10 (by decide) ?_
    have hm := Option.some.inj hm
    subst hm
    exact k_iret (v := (-2)) X rfl dX10_judge_12 hP hD hS
  · rw [if_neg c2] at hm
    refine lv_iload_n hx hb dX10_judge_5 rfl (lv_at hl 1 rfl) ?_
    refine lv_iconst (v := 4) hx hb dX10_judge_6 (by decide) ?_
    refine lv_icmp_le (tgt := 13) hx hb dX10_judge_7 (by decide) (fun c7 => ?_) (fun c7 => ?_)
    · rw [if_pos c7] at hm
      refine lv_iconst (v := 3) hx hb dX10_judge_13 (by decide) ?_
      refine lv_iload_n hx hb dX10_judge_14 rfl (lv_at hl 1 rfl) ?_
      refine lv_imul hx hb dX10_judge_15 ?_
      refine lv_istore (lv' := [(4, .int (3 * p1)), (0, .ref a_t), (1, .int p1), (2, .long p2)]) hx hb dX10_judge_16 hl (by decide) rfl (fun ls hl => ?_)
      refine lv_lload_n hx hb dX10_judge_18 rfl (lv_at hl 3 rfl) ?_
      refine lv_iload hx hb dX10_judge_19 (lv_at hl 0 rfl) ?_
      obtain ⟨r21, hc21, hm⟩ := kbind hm
      refine kcS0 (st1 := [.int (bI r21)]) X hA (c_X4_fit l G cI cZ cE p2 (3 * p1) r21 hc21) (va_cwS 2 hts gX10_judge_X4_fit rfl rfl rfl hd_X4_fit ⟨Nat.le_of_ble_eq_true rfl, Nat.le_of_ble_eq_true rfl⟩) hl.1 dX10_judge_21 hP hD hS [] rfl rfl rfl [] rfl (Nat.le_of_ble_eq_true rfl) rfl ⟨Nat.zero_le _, Nat.zero_le _⟩ (fun H locs hP hD hS => ?_)
      refine lv_if_ne (tgt := 30) hx hb dX10_judge_24 (by decide) (fun c24 => ?_) (fun c24 => ?_)
      · have c24 := kb1 c24
        rw [if_pos c24] at hm
        refine lv_aload_n hx hb dX10_judge_30 rfl (lv_at hl 1 rfl) ?_
        refine va_get (D := G) (ci := 7) (v := .ref a_t_trial) (C := RX10) (T := TX10) (N := 13) hx hb hts i_X10 hown hK hP 0 rfl rfl 2 (by decide) l_23 (fun _ h9 => h9) rfl dX10_judge_31 ?_
        refine lv_aload_n hx hb dX10_judge_34 rfl (lv_at hl 1 rfl) ?_
        refine va_get (D := G) (ci := 7) (v := .ref a_t_edges) (C := RX10) (T := TX10) (N := 13) hx hb hts i_X10 hown hK hP 0 rfl rfl 1 (by decide) l_19 (fun _ h9 => h9) rfl dX10_judge_35 ?_
        obtain ⟨r38, hc38, hm⟩ := kbind hm
        refine kcV (ws1 := [(a_t, .inr (7, [.ref a_t_text, .ref a_t_edges, .ref a_t_trial, .ref a_t_acts, .ref a_t_slots, .ref a_t_seen, .ref a_t_covers, .ref a_t_trialCovers, .ref a_t_walk, .ref a_t_least, .ref a_t_told, .int k_t_keptSlots, .long k_t_theSeed])), (a_t_edges, .inr (2, [.ref a_t_edges_row, .int k_t_edges_knots, .int k_t_edges_nextStamp])), (a_t_edges_row, .inr (3, [.ref a_t_edges_row_items, .int k_t_edges_row_size])), (a_t_edges_row_items, .inl (cI, 24, .inl f_t_edges_row_items)), (a_t_trial, .inr (2, [.ref a_t_trial_row, .int r38.1, .int r38.2.1])), (a_t_trial_row, .inr (3, [.ref a_t_trial_row_items, .int r38.2.2.1])), (a_t_trial_row_items, .inl (cI, 24, .inl r38.2.2.2)), (a_t_trialCovers, .inr (1, [.long k_t_trialCovers_grid, .long k_t_trialCovers_covered, .long k_t_trialCovers_coverers, .int k_t_trialCovers_reached])), (a_t_walk, .inr (6, [.ref a_t_walk_met, .ref a_t_walk_path, .long k_t_walk_grid])), (a_t_walk_met, .inr (3, [.ref a_t_walk_met_items, .int k_t_walk_met_size])), (a_t_walk_met_items, .inl (cI, 8, .inl f_t_walk_met_items)), (a_t_walk_path, .inr (3, [.ref a_t_walk_path_items, .int k_t_walk_path_size])), (a_t_walk_path_items, .inl (cI, 8, .inl f_t_walk_path_items))]) (st1 := []) X hA (c_X3_copy l G cI cZ cE a_t_trial a_t_trial_row a_t_trial_row_items a_t_edges a_t_edges_row a_t_edges_row_items k_t_trial_knots k_t_trial_nextStamp k_t_trial_row_size f_t_trial_row_items k_t_edges_knots k_t_edges_nextStamp k_t_edges_row_size f_t_edges_row_items r38 hc38) (cwV 1 hts gX10_judge_X3_copy rfl rfl rfl hd_X3_copy ⟨Nat.le_of_ble_eq_true rfl, Nat.le_of_ble_eq_true rfl⟩) 4 2 rfl rfl hl.1 dX10_judge_38 hP hD hS [4, 5, 6, 1, 2, 3] rfl rfl rfl rfl rfl [] rfl (Nat.le_of_ble_eq_true rfl) rfl ⟨Nat.zero_le _, Nat.zero_le _⟩ (fun H locs hP hD hS => ?_)
        refine lv_iconst (v := 0) hx hb dX10_judge_41 (by decide) ?_
        refine lv_istore (lv' := [(5, .int 0), (4, .int (3 * p1)), (0, .ref a_t), (1, .int p1), (2, .long p2)]) hx hb dX10_judge_42 hl (by decide) rfl (fun ls hl => ?_)
        have h44 : ∀ (n44 : Nat), ∀ (v44_5 : Int32) (w44_k_t_trial_nextStamp : Int32) (w44_k_t_trial_row_size : Int32) (w44_f_t_trial_row_items : Nat → Int32) (w44_k_t_trialCovers_grid : Int64) (w44_k_t_trialCovers_covered : Int64) (w44_k_t_trialCovers_coverers : Int64) (w44_k_t_trialCovers_reached : Int32) (w44_k_t_walk_grid : Int64) (w44_k_t_walk_met_size : Int32) (w44_f_t_walk_met_items : Nat → Int32) (w44_k_t_walk_path_size : Int32) (w44_f_t_walk_path_items : Nat → Int32) (H : Heap) (locs : List Loc) (ls : Array Slot), va_P G vwCl [(a_t, .inr (7, [.ref a_t_text, .ref a_t_edges, .ref a_t_trial, .ref a_t_acts, .ref a_t_slots, .ref a_t_seen, .ref a_t_covers, .ref a_t_trialCovers, .ref a_t_walk, .ref a_t_least, .ref a_t_told, .int k_t_keptSlots, .long k_t_theSeed])), (a_t_edges, .inr (2, [.ref a_t_edges_row, .int k_t_edges_knots, .int k_t_edges_nextStamp])), (a_t_edges_row, .inr (3, [.ref a_t_edges_row_items, .int k_t_edges_row_size])), (a_t_edges_row_items, .inl (cI, 24, .inl f_t_edges_row_items)), (a_t_trial, .inr (2, [.ref a_t_trial_row, .int r38.1, .int w44_k_t_trial_nextStamp])), (a_t_trial_row, .inr (3, [.ref a_t_trial_row_items, .int w44_k_t_trial_row_size])), (a_t_trial_row_items, .inl (cI, 24, .inl w44_f_t_trial_row_items)), (a_t_trialCovers, .inr (1, [.long w44_k_t_trialCovers_grid, .long w44_k_t_trialCovers_covered, .long w44_k_t_trialCovers_coverers, .int w44_k_t_trialCovers_reached])), (a_t_walk, .inr (6, [.ref a_t_walk_met, .ref a_t_walk_path, .long w44_k_t_walk_grid])), (a_t_walk_met, .inr (3, [.ref a_t_walk_met_items, .int w44_k_t_walk_met_size])), (a_t_walk_met_items, .inl (cI, 8, .inl w44_f_t_walk_met_items)), (a_t_walk_path, .inr (3, [.ref a_t_walk_path_items, .int w44_k_t_walk_path_size])), (a_t_walk_path_items, .inl (cI, 8, .inl w44_f_t_walk_path_items))] H → va_D A [(a_t, .inr (7, [.ref a_t_text, .ref a_t_edges, .ref a_t_trial, .ref a_t_acts, .ref a_t_slots, .ref a_t_seen, .ref a_t_covers, .ref a_t_trialCovers, .ref a_t_walk, .ref a_t_least, .ref a_t_told, .int k_t_keptSlots, .long k_t_theSeed])), (a_t_edges, .inr (2, [.ref a_t_edges_row, .int k_t_edges_knots, .int k_t_edges_nextStamp])), (a_t_edges_row, .inr (3, [.ref a_t_edges_row_items, .int k_t_edges_row_size])), (a_t_edges_row_items, .inl (cI, 24, .inl f_t_edges_row_items)), (a_t_trial, .inr (2, [.ref a_t_trial_row, .int r38.1, .int w44_k_t_trial_nextStamp])), (a_t_trial_row, .inr (3, [.ref a_t_trial_row_items, .int w44_k_t_trial_row_size])), (a_t_trial_row_items, .inl (cI, 24, .inl w44_f_t_trial_row_items)), (a_t_trialCovers, .inr (1, [.long w44_k_t_trialCovers_grid, .long w44_k_t_trialCovers_covered, .long w44_k_t_trialCovers_coverers, .int w44_k_t_trialCovers_reached])), (a_t_walk, .inr (6, [.ref a_t_walk_met, .ref a_t_walk_path, .long w44_k_t_walk_grid])), (a_t_walk_met, .inr (3, [.ref a_t_walk_met_items, .int w44_k_t_walk_met_size])), (a_t_walk_met_items, .inl (cI, 8, .inl w44_f_t_walk_met_items)), (a_t_walk_path, .inr (3, [.ref a_t_walk_path_items, .int w44_k_t_walk_path_size])), (a_t_walk_path_items, .inl (cI, 8, .inl w44_f_t_walk_path_items))] → va_S A s.heap H locs → lv_has ls 10 [(0, .ref a_t), (1, .int p1), (2, .long p2), (4, .int (3 * p1)), (5, .int v44_5)] → mX10_judge_L44 p1 p2 r38 n44 v44_5 w44_k_t_trial_nextStamp w44_k_t_trial_row_size w44_f_t_trial_row_items w44_k_t_trialCovers_grid w44_k_t_trialCovers_covered w44_k_t_trialCovers_coverers w44_k_t_trialCovers_reached w44_k_t_walk_grid w44_k_t_walk_met_size w44_f_t_walk_met_items w44_k_t_walk_path_size w44_f_t_walk_path_items = some R → W p l e { frames := 6, cells := 0, slots := 0, locals := 136 } s m ([.ref a_t, .int p1, .long p2] : List Value).toArray below meth c H locs 0 0 (kQ below G [(a_t, .inr (7, [.ref a_t_text, .ref a_t_edges, .ref a_t_trial, .ref a_t_acts, .ref a_t_slots, .ref a_t_seen, .ref a_t_covers, .ref a_t_trialCovers, .ref a_t_walk, .ref a_t_least, .ref a_t_told, .int k_t_keptSlots, .long k_t_theSeed])), (a_t_edges, .inr (2, [.ref a_t_edges_row, .int k_t_edges_knots, .int k_t_edges_nextStamp])), (a_t_edges_row, .inr (3, [.ref a_t_edges_row_items, .int k_t_edges_row_size])), (a_t_edges_row_items, .inl (cI, 24, .inl f_t_edges_row_items)), (a_t_trial, .inr (2, [.ref a_t_trial_row, .int R.2.1, .int R.2.2.1])), (a_t_trial_row, .inr (3, [.ref a_t_trial_row_items, .int R.2.2.2.1])), (a_t_trial_row_items, .inl (cI, 24, .inl R.2.2.2.2.1)), (a_t_trialCovers, .inr (1, [.long R.2.2.2.2.2.1, .long R.2.2.2.2.2.2.1, .long R.2.2.2.2.2.2.2.1, .int R.2.2.2.2.2.2.2.2.1])), (a_t_walk, .inr (6, [.ref a_t_walk_met, .ref a_t_walk_path, .long R.2.2.2.2.2.2.2.2.2.1])), (a_t_walk_met, .inr (3, [.ref a_t_walk_met_items, .int R.2.2.2.2.2.2.2.2.2.2.1])), (a_t_walk_met_items, .inl (cI, 8, .inl R.2.2.2.2.2.2.2.2.2.2.2.1)), (a_t_walk_path, .inr (3, [.ref a_t_walk_path_items, .int R.2.2.2.2.2.2.2.2.2.2.2.2.1])), (a_t_walk_path_items, .inl (cI, 8, .inl R.2.2.2.2.2.2.2.2.2.2.2.2.2))] (some (.int R.1)) A ([.ref a_t, .int p1, .long p2] : List Value).toArray s) (F0 m 44 ls []) := by
          intro n44
          induction n44 with
          | zero => intro v44_5 w44_k_t_trial_nextStamp w44_k_t_trial_row_size w44_f_t_trial_row_items w44_k_t_trialCovers_grid w44_k_t_trialCovers_covered w44_k_t_trialCovers_coverers w44_k_t_trialCovers_reached w44_k_t_walk_grid w44_k_t_walk_met_size w44_f_t_walk_met_items w44_k_t_walk_path_size w44_f_t_walk_path_items H locs ls hP hD hS hl hm; rw [mX10_judge_L44] at hm; cases hm
          | succ n44 ih44 =>
            intro v44_5 w44_k_t_trial_nextStamp w44_k_t_trial_row_size w44_f_t_trial_row_items w44_k_t_trialCovers_grid w44_k_t_trialCovers_covered w44_k_t_trialCovers_coverers w44_k_t_trialCovers_reached w44_k_t_walk_grid w44_k_t_walk_met_size w44_f_t_walk_met_items w44_k_t_walk_path_size w44_f_t_walk_path_items H locs ls hP hD hS hl hm
            rw [mX10_judge_L44] at hm
            refine lv_iload hx hb dX10_judge_44 (lv_at hl 4 rfl) ?_
            refine lv_iload_n hx hb dX10_judge_46 rfl (lv_at hl 1 rfl) ?_
            refine lv_icmp_ge (tgt := 112) hx hb dX10_judge_47 (by decide) (fun c47 => ?_) (fun c47 => ?_)
            · rw [if_pos c47] at hm
              refine lv_bipush (v := (-9)) hx hb dX10_judge_112 (by decide) ?_
              have hm := Option.some.inj hm
              subst hm
              exact k_iret (v := (-9)) X rfl dX10_judge_114 hP hD hS
            · rw [if_neg c47] at hm
              refine lv_iconst (v := 3) hx hb dX10_judge_50 (by decide) ?_
              refine lv_iload hx hb dX10_judge_51 (lv_at hl 4 rfl) ?_
              refine lv_imul hx hb dX10_judge_53 ?_
              refine lv_istore (lv' := [(6, .int (3 * v44_5)), (0, .ref a_t), (1, .int p1), (2, .long p2), (4, .int (3 * p1)), (5, .int v44_5)]) hx hb dX10_judge_54 hl (by decide) rfl (fun ls hl => ?_)
              refine lv_lload_n hx hb dX10_judge_56 rfl (lv_at hl 3 rfl) ?_
              refine lv_iload hx hb dX10_judge_57 (lv_at hl 0 rfl) ?_
              refine lv_iload hx hb dX10_judge_59 (lv_at hl 4 rfl) ?_
              obtain ⟨r61, hc61, hm⟩ := kbind hm
              refine kcS0 (st1 := [.int r61]) X hA (c_X4_at l G cI cZ cE p2 (3 * v44_5) (3 * p1) r61 hc61) (va_cwS 3 hts gX10_judge_X4_at rfl rfl rfl hd_X4_at ⟨Nat.le_of_ble_eq_true rfl, Nat.le_of_ble_eq_true rfl⟩) hl.1 dX10_judge_61 hP hD hS [] rfl rfl rfl [] rfl (Nat.le_of_ble_eq_true rfl) rfl ⟨Nat.zero_le _, Nat.zero_le _⟩ (fun H locs hP hD hS => ?_)
              refine lv_istore (lv' := [(7, .int r61), (6, .int (3 * v44_5)), (0, .ref a_t), (1, .int p1), (2, .long p2), (4, .int (3 * p1)), (5, .int v44_5)]) hx hb dX10_judge_64 hl (by decide) rfl (fun ls hl => ?_)
              refine lv_lload_n hx hb dX10_judge_66 rfl (lv_at hl 4 rfl) ?_
              refine lv_iload hx hb dX10_judge_67 (lv_at hl 1 rfl) ?_
              refine lv_iconst (v := 1) hx hb dX10_judge_69 (by decide) ?_
              refine lv_iadd hx hb dX10_judge_70 ?_
              refine lv_iload hx hb dX10_judge_71 (lv_at hl 5 rfl) ?_
              obtain ⟨r73, hc73, hm⟩ := kbind hm
              refine kcS0 (st1 := [.int r73]) X hA (c_X4_at l G cI cZ cE p2 ((3 * v44_5) + 1) (3 * p1) r73 hc73) (va_cwS 3 hts gX10_judge_X4_at rfl rfl rfl hd_X4_at ⟨Nat.le_of_ble_eq_true rfl, Nat.le_of_ble_eq_true rfl⟩) hl.1 dX10_judge_73 hP hD hS [] rfl rfl rfl [] rfl (Nat.le_of_ble_eq_true rfl) rfl ⟨Nat.zero_le _, Nat.zero_le _⟩ (fun H locs hP hD hS => ?_)
              refine lv_istore (lv' := [(8, .int r73), (7, .int r61), (6, .int (3 * v44_5)), (0, .ref a_t), (1, .int p1), (2, .long p2), (4, .int (3 * p1)), (5, .int v44_5)]) hx hb dX10_judge_76 hl (by decide) rfl (fun ls hl => ?_)
              refine lv_lload_n hx hb dX10_judge_78 rfl (lv_at hl 5 rfl) ?_
              refine lv_iload hx hb dX10_judge_79 (lv_at hl 2 rfl) ?_
              refine lv_iconst (v := 2) hx hb dX10_judge_81 (by decide) ?_
              refine lv_iadd hx hb dX10_judge_82 ?_
              refine lv_iload hx hb dX10_judge_83 (lv_at hl 6 rfl) ?_
              obtain ⟨r85, hc85, hm⟩ := kbind hm
              refine kcS0 (st1 := [.int r85]) X hA (c_X4_at l G cI cZ cE p2 ((3 * v44_5) + 2) (3 * p1) r85 hc85) (va_cwS 3 hts gX10_judge_X4_at rfl rfl rfl hd_X4_at ⟨Nat.le_of_ble_eq_true rfl, Nat.le_of_ble_eq_true rfl⟩) hl.1 dX10_judge_85 hP hD hS [] rfl rfl rfl [] rfl (Nat.le_of_ble_eq_true rfl) rfl ⟨Nat.zero_le _, Nat.zero_le _⟩ (fun H locs hP hD hS => ?_)
              refine lv_istore (lv' := [(9, .int r85), (8, .int r73), (7, .int r61), (6, .int (3 * v44_5)), (0, .ref a_t), (1, .int p1), (2, .long p2), (4, .int (3 * p1)), (5, .int v44_5)]) hx hb dX10_judge_88 hl (by decide) rfl (fun ls hl => ?_)
              refine lv_aload_n hx hb dX10_judge_90 rfl (lv_at hl 4 rfl) ?_
              refine lv_iload hx hb dX10_judge_91 (lv_at hl 2 rfl) ?_
              refine lv_iload hx hb dX10_judge_93 (lv_at hl 1 rfl) ?_
              refine lv_iload hx hb dX10_judge_95 (lv_at hl 0 rfl) ?_
              obtain ⟨r97, hc97, hm⟩ := kbind hm
              refine kcV (ws1 := [(a_t, .inr (7, [.ref a_t_text, .ref a_t_edges, .ref a_t_trial, .ref a_t_acts, .ref a_t_slots, .ref a_t_seen, .ref a_t_covers, .ref a_t_trialCovers, .ref a_t_walk, .ref a_t_least, .ref a_t_told, .int k_t_keptSlots, .long k_t_theSeed])), (a_t_edges, .inr (2, [.ref a_t_edges_row, .int k_t_edges_knots, .int k_t_edges_nextStamp])), (a_t_edges_row, .inr (3, [.ref a_t_edges_row_items, .int k_t_edges_row_size])), (a_t_edges_row_items, .inl (cI, 24, .inl f_t_edges_row_items)), (a_t_trial, .inr (2, [.ref a_t_trial_row, .int r38.1, .int r97.2.1])), (a_t_trial_row, .inr (3, [.ref a_t_trial_row_items, .int r97.2.2.1])), (a_t_trial_row_items, .inl (cI, 24, .inl r97.2.2.2.1)), (a_t_trialCovers, .inr (1, [.long r97.2.2.2.2.1, .long r97.2.2.2.2.2.1, .long r97.2.2.2.2.2.2.1, .int r97.2.2.2.2.2.2.2.1])), (a_t_walk, .inr (6, [.ref a_t_walk_met, .ref a_t_walk_path, .long r97.2.2.2.2.2.2.2.2.1])), (a_t_walk_met, .inr (3, [.ref a_t_walk_met_items, .int r97.2.2.2.2.2.2.2.2.2.1])), (a_t_walk_met_items, .inl (cI, 8, .inl r97.2.2.2.2.2.2.2.2.2.2.1)), (a_t_walk_path, .inr (3, [.ref a_t_walk_path_items, .int r97.2.2.2.2.2.2.2.2.2.2.2.1])), (a_t_walk_path_items, .inl (cI, 8, .inl r97.2.2.2.2.2.2.2.2.2.2.2.2))]) (st1 := [.int (bI r97.1)]) X hA (c_X10_isDoneOrSo l G cI cZ cE a_t a_t_text a_t_edges a_t_trial a_t_acts a_t_slots a_t_seen a_t_covers a_t_trialCovers a_t_walk a_t_least a_t_told a_t_trial_row a_t_trial_row_items a_t_walk_met a_t_walk_path a_t_walk_met_items a_t_walk_path_items k_t_keptSlots k_t_theSeed r38.1 w44_k_t_trial_nextStamp w44_k_t_trial_row_size w44_f_t_trial_row_items w44_k_t_trialCovers_grid w44_k_t_trialCovers_covered w44_k_t_trialCovers_coverers w44_k_t_trialCovers_reached w44_k_t_walk_grid w44_k_t_walk_met_size w44_f_t_walk_met_items w44_k_t_walk_path_size w44_f_t_walk_path_items r61 r73 r85 r97 hc97) (cwV 3 hts gX10_judge_X10_isDoneOrSo rfl rfl rfl hd_X10_isDoneOrSo ⟨Nat.le_of_ble_eq_true rfl, Nat.le_of_ble_eq_true rfl⟩) 0 7 rfl rfl hl.1 dX10_judge_97 hP hD hS [0, 4, 5, 6, 7, 8, 9, 10, 11, 12] rfl rfl rfl rfl rfl [] rfl (Nat.le_of_ble_eq_true rfl) rfl ⟨Nat.zero_le _, Nat.zero_le _⟩ (fun H locs hP hD hS => ?_)
              refine lv_if_ne (tgt := 106) hx hb dX10_judge_100 (by decide) (fun c100 => ?_) (fun c100 => ?_)
              · have c100 := kb1 c100
                rw [if_pos c100] at hm
                refine lv_iinc (v := v44_5 + 1) (lv' := [(5, .int (v44_5 + 1)), (9, .int r85), (8, .int r73), (7, .int r61), (6, .int (3 * v44_5)), (0, .ref a_t), (1, .int p1), (2, .long p2), (4, .int (3 * p1))]) hx hb dX10_judge_106 hl (k := 8) rfl rfl (by decide) rfl (fun ls hl => ?_)
                refine lv_goto (tgt := 44) hx hb dX10_judge_109 (by decide) ?_
                exact ih44 (v44_5 + 1) r97.2.1 r97.2.2.1 r97.2.2.2.1 r97.2.2.2.2.1 r97.2.2.2.2.2.1 r97.2.2.2.2.2.2.1 r97.2.2.2.2.2.2.2.1 r97.2.2.2.2.2.2.2.2.1 r97.2.2.2.2.2.2.2.2.2.1 r97.2.2.2.2.2.2.2.2.2.2.1 r97.2.2.2.2.2.2.2.2.2.2.2.1 r97.2.2.2.2.2.2.2.2.2.2.2.2 _ _ _ hP hD hS (lv_sub hl [5, 6, 7, 8, 0] rfl) hm
              · have c100 := kb0 c100
                rw [if_neg c100] at hm
                refine lv_iload hx hb dX10_judge_103 (lv_at hl 8 rfl) ?_
                have hm := Option.some.inj hm
                subst hm
                exact k_iret (v := v44_5) X rfl dX10_judge_105 hP hD hS
        exact h44 kFU 0 r38.2.1 r38.2.2.1 r38.2.2.2 k_t_trialCovers_grid k_t_trialCovers_covered k_t_trialCovers_coverers k_t_trialCovers_reached k_t_walk_grid k_t_walk_met_size f_t_walk_met_items k_t_walk_path_size f_t_walk_path_items _ _ _ hP hD hS (lv_sub hl [2, 3, 4, 1, 0] rfl) hm
      · have c24 := kb0 c24
        rw [if_neg c24] at hm
        refine lv_bipush (v := (-2)) hx hb dX10_judge_27 (by decide) ?_
        have hm := Option.some.inj hm
        subst hm
        exact k_iret (v := (-2)) X rfl dX10_judge_29 hP hD hS
    · rw [if_neg c7] at hm
      refine lv_bipush (v := (-2)) hx hb dX10_judge_10 (by decide) ?_
      have hm := Option.some.inj hm
      subst hm
      exact k_iret (v := (-2)) X rfl dX10_judge_12 hP hD hS
theorem hd_X10_judge : yX10_judge.cls = RX10 ∧ yX10_judge.cls ≠ "java/lang/invoke/MethodHandle" ∧ yX10_judge.cls ≠ "java/lang/invoke/VarHandle" ∧ (parseMethodDescriptor yX10_judge.desc).map (fun d => d.parameters.length) = some 2 := by decide +kernel
/-! CoverOrder see -/
set_option maxRecDepth 100000 in
set_option maxHeartbeats 4000000 in
theorem c_X10_see (l : Launch) (G : va_G) (cI cZ cE : ClassId) (a_t a_t_text a_t_edges a_t_trial a_t_acts a_t_slots a_t_seen a_t_covers a_t_trialCovers a_t_walk a_t_least a_t_told a_t_seen_items : Nat) (k_t_keptSlots : Int32) (k_t_theSeed : Int64) (k_t_seen_size : Int32) (f_t_seen_items : Nat → Int32) (p1 : Int32) (p2 : Int32) (p3 : Int32) (R : Int32 × Int32 × (Nat → Int32)) (hm : mX10_see k_t_seen_size f_t_seen_items p1 p2 p3 = some R) : kM l yX10_see wsX10_see { frames := 3, cells := 0, slots := 0, locals := 64 } G cI cZ cE [.ref a_t, .int p1, .int p2, .int p3] [(a_t, .inr (7, [.ref a_t_text, .ref a_t_edges, .ref a_t_trial, .ref a_t_acts, .ref a_t_slots, .ref a_t_seen, .ref a_t_covers, .ref a_t_trialCovers, .ref a_t_walk, .ref a_t_least, .ref a_t_told, .int k_t_keptSlots, .long k_t_theSeed])), (a_t_seen, .inr (3, [.ref a_t_seen_items, .int k_t_seen_size])), (a_t_seen_items, .inl (cI, 6, .inl f_t_seen_items))] [(a_t, .inr (7, [.ref a_t_text, .ref a_t_edges, .ref a_t_trial, .ref a_t_acts, .ref a_t_slots, .ref a_t_seen, .ref a_t_covers, .ref a_t_trialCovers, .ref a_t_walk, .ref a_t_least, .ref a_t_told, .int k_t_keptSlots, .long k_t_theSeed])), (a_t_seen, .inr (3, [.ref a_t_seen_items, .int R.2.1])), (a_t_seen_items, .inl (cI, 6, .inl R.2.2))] (some (.int R.1)) := by
  refine kM_of cX10_see 4 (some .int) RX10 (by decide) rfl rfl (Nat.le_of_ble_eq_true rfl) ?_
  intro p e s m below meth c A ls X hA hP hD hS hl
  have hx := X.1.1
  have hb := X.1.2.1
  have hts := X.1.2.2.2.2
  have hown := X.1.2.2.2.1
  have hK := X.2.2.2.1
  have l_42 : (.fieldLink RX10 42 "CoverOrder" "seen" "LCoverOrder$Row;" : Cond).before _ s = true := hts _ (List.mem_of_getElem? (i := 1) (by decide +kernel))
  have i_X10 : ∀ w ∈ u_ws RX10 TX10 13, w ∈ wsX10_see := k_in _ [22, 23, 24, 25, 26, 27, 28, 29, 30, 31, 32, 33, 34] (by decide +kernel)
  have hl : lv_has ls 4 [(0, .ref a_t), (1, .int p1), (2, .int p2), (3, .int p3)] := hl
  rw [mX10_see] at hm
  refine lv_iload_n hx hb dX10_see_0 rfl (lv_at hl 1 rfl) ?_
  refine lv_if_lt (tgt := 29) hx hb dX10_see_1 (by decide) (fun c1 => ?_) (fun c1 => ?_)
  · rw [if_pos c1] at hm
    refine lv_bipush (v := (-2)) hx hb dX10_see_29 (by decide) ?_
    have hm := Option.some.inj hm
    subst hm
    exact k_iret (v := (-2)) X rfl dX10_see_31 hP hD hS
  · rw [if_neg c1] at hm
    refine lv_iload_n hx hb dX10_see_4 rfl (lv_at hl 1 rfl) ?_
    refine lv_bipush (v := 8) hx hb dX10_see_5 (by decide) ?_
    refine lv_icmp_ge (tgt := 29) hx hb dX10_see_7 (by decide) (fun c7 => ?_) (fun c7 => ?_)
    · rw [if_pos c7] at hm
      refine lv_bipush (v := (-2)) hx hb dX10_see_29 (by decide) ?_
      have hm := Option.some.inj hm
      subst hm
      exact k_iret (v := (-2)) X rfl dX10_see_31 hP hD hS
    · rw [if_neg c7] at hm
      refine lv_iload_n hx hb dX10_see_10 rfl (lv_at hl 2 rfl) ?_
      refine lv_if_lt (tgt := 29) hx hb dX10_see_11 (by decide) (fun c11 => ?_) (fun c11 => ?_)
      · rw [if_pos c11] at hm
        refine lv_bipush (v := (-2)) hx hb dX10_see_29 (by decide) ?_
        have hm := Option.some.inj hm
        subst hm
        exact k_iret (v := (-2)) X rfl dX10_see_31 hP hD hS
      · rw [if_neg c11] at hm
        refine lv_iload_n hx hb dX10_see_14 rfl (lv_at hl 2 rfl) ?_
        refine lv_bipush (v := 8) hx hb dX10_see_15 (by decide) ?_
        refine lv_icmp_ge (tgt := 29) hx hb dX10_see_17 (by decide) (fun c17 => ?_) (fun c17 => ?_)
        · rw [if_pos c17] at hm
          refine lv_bipush (v := (-2)) hx hb dX10_see_29 (by decide) ?_
          have hm := Option.some.inj hm
          subst hm
          exact k_iret (v := (-2)) X rfl dX10_see_31 hP hD hS
        · rw [if_neg c17] at hm
          refine lv_iload_n hx hb dX10_see_20 rfl (lv_at hl 3 rfl) ?_
          refine lv_if_lt (tgt := 29) hx hb dX10_see_21 (by decide) (fun c21 => ?_) (fun c21 => ?_)
          · rw [if_pos c21] at hm
            refine lv_bipush (v := (-2)) hx hb dX10_see_29 (by decide) ?_
            have hm := Option.some.inj hm
            subst hm
            exact k_iret (v := (-2)) X rfl dX10_see_31 hP hD hS
          · rw [if_neg c21] at hm
            refine lv_iload_n hx hb dX10_see_24 rfl (lv_at hl 3 rfl) ?_
            refine lv_iconst (v := 1) hx hb dX10_see_25 (by decide) ?_
            refine lv_icmp_le (tgt := 32) hx hb dX10_see_26 (by decide) (fun c26 => ?_) (fun c26 => ?_)
            · rw [if_pos c26] at hm
              refine lv_aload_n hx hb dX10_see_32 rfl (lv_at hl 0 rfl) ?_
              refine va_get (D := G) (ci := 7) (v := .ref a_t_seen) (C := RX10) (T := TX10) (N := 13) hx hb hts i_X10 hown hK hP 0 rfl rfl 5 (by decide) l_42 (fun _ h9 => h9) rfl dX10_see_33 ?_
              refine kcV0 (st1 := [.int (bI (mX6_isFull 6 k_t_seen_size))]) X hA (c_X6_isFull l G cI cZ cE a_t_seen a_t_seen_items 6 k_t_seen_size f_t_seen_items _ rfl) (cwV 0 hts gX10_see_X6_isFull rfl rfl rfl hd_X6_isFull ⟨Nat.le_of_ble_eq_true rfl, Nat.le_of_ble_eq_true rfl⟩) 1 3 rfl rfl hl.1 dX10_see_36 hP hD hS [1, 2] rfl rfl rfl [] rfl (Nat.le_of_ble_eq_true rfl) rfl ⟨Nat.zero_le _, Nat.zero_le _⟩ (fun H locs hP hD hS => ?_)
              refine lv_if_eq (tgt := 45) hx hb dX10_see_39 (by decide) (fun c39 => ?_) (fun c39 => ?_)
              · have c39 := kb0 c39
                rw [if_neg c39] at hm
                refine lv_aload_n hx hb dX10_see_45 rfl (lv_at hl 0 rfl) ?_
                refine va_get (D := G) (ci := 7) (v := .ref a_t_seen) (C := RX10) (T := TX10) (N := 13) hx hb hts i_X10 hown hK hP 0 rfl rfl 5 (by decide) l_42 (fun _ h9 => h9) rfl dX10_see_46 ?_
                refine lv_bipush (v := 100) hx hb dX10_see_49 (by decide) ?_
                refine lv_iload_n hx hb dX10_see_51 rfl (lv_at hl 3 rfl) ?_
                refine lv_imul hx hb dX10_see_52 ?_
                refine lv_bipush (v := 10) hx hb dX10_see_53 (by decide) ?_
                refine lv_iload_n hx hb dX10_see_55 rfl (lv_at hl 1 rfl) ?_
                refine lv_imul hx hb dX10_see_56 ?_
                refine lv_iadd hx hb dX10_see_57 ?_
                refine lv_iload_n hx hb dX10_see_58 rfl (lv_at hl 2 rfl) ?_
                refine lv_iadd hx hb dX10_see_59 ?_
                obtain ⟨r60, hc60, hm⟩ := kbind hm
                refine kcV (ws1 := [(a_t, .inr (7, [.ref a_t_text, .ref a_t_edges, .ref a_t_trial, .ref a_t_acts, .ref a_t_slots, .ref a_t_seen, .ref a_t_covers, .ref a_t_trialCovers, .ref a_t_walk, .ref a_t_least, .ref a_t_told, .int k_t_keptSlots, .long k_t_theSeed])), (a_t_seen, .inr (3, [.ref a_t_seen_items, .int r60.1])), (a_t_seen_items, .inl (cI, 6, .inl r60.2))]) (st1 := []) X hA (c_X6_add l G cI cZ cE a_t_seen a_t_seen_items 6 k_t_seen_size f_t_seen_items (((100 * p3) + (10 * p1)) + p2) r60 hc60) (cwV 1 hts gX10_see_X6_add rfl rfl rfl hd_X6_add ⟨Nat.le_of_ble_eq_true rfl, Nat.le_of_ble_eq_true rfl⟩) 1 3 rfl rfl hl.1 dX10_see_60 hP hD hS [1, 2] rfl rfl rfl rfl rfl [] rfl (Nat.le_of_ble_eq_true rfl) rfl ⟨Nat.zero_le _, Nat.zero_le _⟩ (fun H locs hP hD hS => ?_)
                refine lv_aload_n hx hb dX10_see_63 rfl (lv_at hl 0 rfl) ?_
                refine va_get (D := G) (ci := 7) (v := .ref a_t_seen) (C := RX10) (T := TX10) (N := 13) hx hb hts i_X10 hown hK hP 0 rfl rfl 5 (by decide) l_42 (fun _ h9 => h9) rfl dX10_see_64 ?_
                refine kcV0 (st1 := [.int (mX6_size r60.1)]) X hA (c_X6_size l G cI cZ cE a_t_seen a_t_seen_items r60.1 _ rfl) (cwV 0 hts gX10_see_X6_size rfl rfl rfl hd_X6_size ⟨Nat.le_of_ble_eq_true rfl, Nat.le_of_ble_eq_true rfl⟩) 1 3 rfl rfl hl.1 dX10_see_67 hP hD hS [1] rfl rfl rfl [] rfl (Nat.le_of_ble_eq_true rfl) rfl ⟨Nat.zero_le _, Nat.zero_le _⟩ (fun H locs hP hD hS => ?_)
                have hm := Option.some.inj hm
                subst hm
                exact k_iret (v := (mX6_size r60.1)) X rfl dX10_see_70 hP hD hS
              · have c39 := kb1 c39
                rw [if_pos c39] at hm
                refine lv_bipush (v := (-4)) hx hb dX10_see_42 (by decide) ?_
                have hm := Option.some.inj hm
                subst hm
                exact k_iret (v := (-4)) X rfl dX10_see_44 hP hD hS
            · rw [if_neg c26] at hm
              refine lv_bipush (v := (-2)) hx hb dX10_see_29 (by decide) ?_
              have hm := Option.some.inj hm
              subst hm
              exact k_iret (v := (-2)) X rfl dX10_see_31 hP hD hS
theorem hd_X10_see : yX10_see.cls = RX10 ∧ yX10_see.cls ≠ "java/lang/invoke/MethodHandle" ∧ yX10_see.cls ≠ "java/lang/invoke/VarHandle" ∧ (parseMethodDescriptor yX10_see.desc).map (fun d => d.parameters.length) = some 3 := by decide +kernel
/-! CoverOrder unsee -/
set_option maxRecDepth 100000 in
set_option maxHeartbeats 4000000 in
theorem c_X10_unsee (l : Launch) (G : va_G) (cI cZ cE : ClassId) (a_t a_t_text a_t_edges a_t_trial a_t_acts a_t_slots a_t_seen a_t_covers a_t_trialCovers a_t_walk a_t_least a_t_told a_t_seen_items : Nat) (k_t_keptSlots : Int32) (k_t_theSeed : Int64) (k_t_seen_size : Int32) (R : Int32 × Int32) (hm : mX10_unsee k_t_seen_size = R) : kM l yX10_unsee wsX10_unsee { frames := 1, cells := 0, slots := 0, locals := 20 } G cI cZ cE [.ref a_t] [(a_t, .inr (7, [.ref a_t_text, .ref a_t_edges, .ref a_t_trial, .ref a_t_acts, .ref a_t_slots, .ref a_t_seen, .ref a_t_covers, .ref a_t_trialCovers, .ref a_t_walk, .ref a_t_least, .ref a_t_told, .int k_t_keptSlots, .long k_t_theSeed])), (a_t_seen, .inr (3, [.ref a_t_seen_items, .int k_t_seen_size]))] [(a_t, .inr (7, [.ref a_t_text, .ref a_t_edges, .ref a_t_trial, .ref a_t_acts, .ref a_t_slots, .ref a_t_seen, .ref a_t_covers, .ref a_t_trialCovers, .ref a_t_walk, .ref a_t_least, .ref a_t_told, .int k_t_keptSlots, .long k_t_theSeed])), (a_t_seen, .inr (3, [.ref a_t_seen_items, .int R.2]))] (some (.int R.1)) := by
  refine kM_of cX10_unsee 2 (some .int) RX10 (by decide) rfl rfl (Nat.le_of_ble_eq_true rfl) ?_
  intro p e s m below meth c A ls X hA hP hD hS hl
  have hx := X.1.1
  have hb := X.1.2.1
  have hts := X.1.2.2.2.2
  have hown := X.1.2.2.2.1
  have hK := X.2.2.2.1
  have l_42 : (.fieldLink RX10 42 "CoverOrder" "seen" "LCoverOrder$Row;" : Cond).before _ s = true := hts _ (List.mem_of_getElem? (i := 1) (by decide +kernel))
  have i_X10 : ∀ w ∈ u_ws RX10 TX10 13, w ∈ wsX10_unsee := k_in _ [12, 13, 14, 15, 16, 17, 18, 19, 20, 21, 22, 23, 24] (by decide +kernel)
  have hl : lv_has ls 2 [(0, .ref a_t)] := hl
  rw [mX10_unsee] at hm
  refine lv_aload_n hx hb dX10_unsee_0 rfl (lv_at hl 0 rfl) ?_
  refine va_get (D := G) (ci := 7) (v := .ref a_t_seen) (C := RX10) (T := TX10) (N := 13) hx hb hts i_X10 hown hK hP 0 rfl rfl 5 (by decide) l_42 (fun _ h9 => h9) rfl dX10_unsee_1 ?_
  refine kcV0 (st1 := [.int (mX6_size k_t_seen_size)]) X hA (c_X6_size l G cI cZ cE a_t_seen a_t_seen_items k_t_seen_size _ rfl) (cwV 0 hts gX10_unsee_X6_size rfl rfl rfl hd_X6_size ⟨Nat.le_of_ble_eq_true rfl, Nat.le_of_ble_eq_true rfl⟩) 1 3 rfl rfl hl.1 dX10_unsee_4 hP hD hS [1] rfl rfl rfl [] rfl (Nat.le_of_ble_eq_true rfl) rfl ⟨Nat.zero_le _, Nat.zero_le _⟩ (fun H locs hP hD hS => ?_)
  refine lv_istore_n (lv' := [(1, .int (mX6_size k_t_seen_size)), (0, .ref a_t)]) hx hb dX10_unsee_7 rfl hl (by decide) rfl (fun ls hl => ?_)
  refine lv_aload_n hx hb dX10_unsee_8 rfl (lv_at hl 1 rfl) ?_
  refine va_get (D := G) (ci := 7) (v := .ref a_t_seen) (C := RX10) (T := TX10) (N := 13) hx hb hts i_X10 hown hK hP 0 rfl rfl 5 (by decide) l_42 (fun _ h9 => h9) rfl dX10_unsee_9 ?_
  refine kcV (ws1 := [(a_t, .inr (7, [.ref a_t_text, .ref a_t_edges, .ref a_t_trial, .ref a_t_acts, .ref a_t_slots, .ref a_t_seen, .ref a_t_covers, .ref a_t_trialCovers, .ref a_t_walk, .ref a_t_least, .ref a_t_told, .int k_t_keptSlots, .long k_t_theSeed])), (a_t_seen, .inr (3, [.ref a_t_seen_items, .int (mX6_clear k_t_seen_size)]))]) (st1 := []) X hA (c_X6_clear l G cI cZ cE a_t_seen a_t_seen_items k_t_seen_size _ rfl) (cwV 0 hts gX10_unsee_X6_clear rfl rfl rfl hd_X6_clear ⟨Nat.le_of_ble_eq_true rfl, Nat.le_of_ble_eq_true rfl⟩) 1 3 rfl rfl hl.1 dX10_unsee_12 hP hD hS [1] rfl rfl rfl rfl rfl [] rfl (Nat.le_of_ble_eq_true rfl) rfl ⟨Nat.zero_le _, Nat.zero_le _⟩ (fun H locs hP hD hS => ?_)
  refine lv_iload_n hx hb dX10_unsee_15 rfl (lv_at hl 0 rfl) ?_
  subst hm
  exact k_iret (v := (mX6_size k_t_seen_size)) X rfl dX10_unsee_16 hP hD hS
theorem hd_X10_unsee : yX10_unsee.cls = RX10 ∧ yX10_unsee.cls ≠ "java/lang/invoke/MethodHandle" ∧ yX10_unsee.cls ≠ "java/lang/invoke/VarHandle" ∧ (parseMethodDescriptor yX10_unsee.desc).map (fun d => d.parameters.length) = some 0 := by decide +kernel
/-! CoverOrder isAllSeenIn -/
set_option maxRecDepth 100000 in
set_option maxHeartbeats 4000000 in
theorem c_X10_isAllSeenIn (l : Launch) (G : va_G) (cI cZ cE : ClassId) (a_t a_t_text a_t_edges a_t_trial a_t_acts a_t_slots a_t_seen a_t_covers a_t_trialCovers a_t_walk a_t_least a_t_told a_t_seen_items a_o0 : Nat) (k_t_keptSlots : Int32) (k_t_theSeed : Int64) (k_t_seen_size : Int32) (f_t_seen_items : Nat → Int32) (k_o0_grid : Int64) (k_o0_covered : Int64) (k_o0_coverers : Int64) (k_o0_reached : Int32) (R : Bool) (hm : mX10_isAllSeenIn k_t_seen_size f_t_seen_items k_o0_coverers = some R) : kM l yX10_isAllSeenIn wsX10_isAllSeenIn { frames := 3, cells := 0, slots := 0, locals := 65 } G cI cZ cE [.ref a_t, .ref a_o0] [(a_t, .inr (7, [.ref a_t_text, .ref a_t_edges, .ref a_t_trial, .ref a_t_acts, .ref a_t_slots, .ref a_t_seen, .ref a_t_covers, .ref a_t_trialCovers, .ref a_t_walk, .ref a_t_least, .ref a_t_told, .int k_t_keptSlots, .long k_t_theSeed])), (a_t_seen, .inr (3, [.ref a_t_seen_items, .int k_t_seen_size])), (a_t_seen_items, .inl (cI, 6, .inl f_t_seen_items)), (a_o0, .inr (1, [.long k_o0_grid, .long k_o0_covered, .long k_o0_coverers, .int k_o0_reached]))] [(a_t, .inr (7, [.ref a_t_text, .ref a_t_edges, .ref a_t_trial, .ref a_t_acts, .ref a_t_slots, .ref a_t_seen, .ref a_t_covers, .ref a_t_trialCovers, .ref a_t_walk, .ref a_t_least, .ref a_t_told, .int k_t_keptSlots, .long k_t_theSeed])), (a_t_seen, .inr (3, [.ref a_t_seen_items, .int k_t_seen_size])), (a_t_seen_items, .inl (cI, 6, .inl f_t_seen_items)), (a_o0, .inr (1, [.long k_o0_grid, .long k_o0_covered, .long k_o0_coverers, .int k_o0_reached]))] (some (.int (bI R))) := by
  refine kM_of cX10_isAllSeenIn 6 (some .boolean) RX10 (by decide) rfl rfl (Nat.le_of_ble_eq_true rfl) ?_
  intro p e s m below meth c A ls X hA hP hD hS hl
  have hx := X.1.1
  have hb := X.1.2.1
  have hts := X.1.2.2.2.2
  have hown := X.1.2.2.2.1
  have hK := X.2.2.2.1
  have l_42 : (.fieldLink RX10 42 "CoverOrder" "seen" "LCoverOrder$Row;" : Cond).before _ s = true := hts _ (List.mem_of_getElem? (i := 1) (by decide +kernel))
  have i_X10 : ∀ w ∈ u_ws RX10 TX10 13, w ∈ wsX10_isAllSeenIn := k_in _ [34, 35, 36, 37, 38, 39, 40, 41, 42, 43, 44, 45, 46] (by decide +kernel)
  have hl : lv_has ls 6 [(0, .ref a_t), (1, .ref a_o0)] := hl
  rw [mX10_isAllSeenIn] at hm
  refine lv_iconst (v := 0) hx hb dX10_isAllSeenIn_0 (by decide) ?_
  refine lv_istore_n (lv' := [(2, .int 0), (0, .ref a_t), (1, .ref a_o0)]) hx hb dX10_isAllSeenIn_1 rfl hl (by decide) rfl (fun ls hl => ?_)
  have h2 : ∀ (n2 : Nat), ∀ (v2_2 : Int32) (H : Heap) (locs : List Loc) (ls : Array Slot), va_P G vwCl [(a_t, .inr (7, [.ref a_t_text, .ref a_t_edges, .ref a_t_trial, .ref a_t_acts, .ref a_t_slots, .ref a_t_seen, .ref a_t_covers, .ref a_t_trialCovers, .ref a_t_walk, .ref a_t_least, .ref a_t_told, .int k_t_keptSlots, .long k_t_theSeed])), (a_t_seen, .inr (3, [.ref a_t_seen_items, .int k_t_seen_size])), (a_t_seen_items, .inl (cI, 6, .inl f_t_seen_items)), (a_o0, .inr (1, [.long k_o0_grid, .long k_o0_covered, .long k_o0_coverers, .int k_o0_reached]))] H → va_D A [(a_t, .inr (7, [.ref a_t_text, .ref a_t_edges, .ref a_t_trial, .ref a_t_acts, .ref a_t_slots, .ref a_t_seen, .ref a_t_covers, .ref a_t_trialCovers, .ref a_t_walk, .ref a_t_least, .ref a_t_told, .int k_t_keptSlots, .long k_t_theSeed])), (a_t_seen, .inr (3, [.ref a_t_seen_items, .int k_t_seen_size])), (a_t_seen_items, .inl (cI, 6, .inl f_t_seen_items)), (a_o0, .inr (1, [.long k_o0_grid, .long k_o0_covered, .long k_o0_coverers, .int k_o0_reached]))] → va_S A s.heap H locs → lv_has ls 6 [(0, .ref a_t), (1, .ref a_o0), (2, .int v2_2)] → mX10_isAllSeenIn_L2 k_t_seen_size f_t_seen_items k_o0_coverers n2 v2_2 = some R → W p l e { frames := 3, cells := 0, slots := 0, locals := 65 } s m ([.ref a_t, .ref a_o0] : List Value).toArray below meth c H locs 0 0 (kQ below G [(a_t, .inr (7, [.ref a_t_text, .ref a_t_edges, .ref a_t_trial, .ref a_t_acts, .ref a_t_slots, .ref a_t_seen, .ref a_t_covers, .ref a_t_trialCovers, .ref a_t_walk, .ref a_t_least, .ref a_t_told, .int k_t_keptSlots, .long k_t_theSeed])), (a_t_seen, .inr (3, [.ref a_t_seen_items, .int k_t_seen_size])), (a_t_seen_items, .inl (cI, 6, .inl f_t_seen_items)), (a_o0, .inr (1, [.long k_o0_grid, .long k_o0_covered, .long k_o0_coverers, .int k_o0_reached]))] (some (.int (bI R))) A ([.ref a_t, .ref a_o0] : List Value).toArray s) (F0 m 2 ls []) := by
    intro n2
    induction n2 with
    | zero => intro v2_2 H locs ls hP hD hS hl hm; rw [mX10_isAllSeenIn_L2] at hm; cases hm
    | succ n2 ih2 =>
      intro v2_2 H locs ls hP hD hS hl hm
      rw [mX10_isAllSeenIn_L2] at hm
      refine lv_iload_n hx hb dX10_isAllSeenIn_2 rfl (lv_at hl 2 rfl) ?_
      refine lv_aload_n hx hb dX10_isAllSeenIn_3 rfl (lv_at hl 0 rfl) ?_
      refine va_get (D := G) (ci := 7) (v := .ref a_t_seen) (C := RX10) (T := TX10) (N := 13) hx hb hts i_X10 hown hK hP 0 rfl rfl 5 (by decide) l_42 (fun _ h9 => h9) rfl dX10_isAllSeenIn_4 ?_
      refine kcV0 (st1 := [.int (mX6_size k_t_seen_size), .int v2_2]) X hA (c_X6_size l G cI cZ cE a_t_seen a_t_seen_items k_t_seen_size _ rfl) (cwV 0 hts gX10_isAllSeenIn_X6_size rfl rfl rfl hd_X6_size ⟨Nat.le_of_ble_eq_true rfl, Nat.le_of_ble_eq_true rfl⟩) 1 3 rfl rfl hl.1 dX10_isAllSeenIn_7 hP hD hS [1] rfl rfl rfl [.int v2_2] rfl (Nat.le_of_ble_eq_true rfl) rfl ⟨Nat.zero_le _, Nat.zero_le _⟩ (fun H locs hP hD hS => ?_)
      refine lv_icmp_ge (tgt := 77) hx hb dX10_isAllSeenIn_10 (by decide) (fun c10 => ?_) (fun c10 => ?_)
      · rw [if_pos c10] at hm
        refine lv_iconst (v := 1) hx hb dX10_isAllSeenIn_77 (by decide) ?_
        have hm := Option.some.inj hm
        subst hm
        exact k_zret (v := true) X rfl dX10_isAllSeenIn_78 hP hD hS
      · rw [if_neg c10] at hm
        refine lv_aload_n hx hb dX10_isAllSeenIn_13 rfl (lv_at hl 0 rfl) ?_
        refine va_get (D := G) (ci := 7) (v := .ref a_t_seen) (C := RX10) (T := TX10) (N := 13) hx hb hts i_X10 hown hK hP 0 rfl rfl 5 (by decide) l_42 (fun _ h9 => h9) rfl dX10_isAllSeenIn_14 ?_
        refine lv_iload_n hx hb dX10_isAllSeenIn_17 rfl (lv_at hl 2 rfl) ?_
        refine kcV0 (st1 := [.int (mX6_at 6 k_t_seen_size f_t_seen_items v2_2)]) X hA (c_X6_at l G cI cZ cE a_t_seen a_t_seen_items 6 k_t_seen_size f_t_seen_items v2_2 _ rfl) (cwV 1 hts gX10_isAllSeenIn_X6_at rfl rfl rfl hd_X6_at ⟨Nat.le_of_ble_eq_true rfl, Nat.le_of_ble_eq_true rfl⟩) 1 3 rfl rfl hl.1 dX10_isAllSeenIn_18 hP hD hS [1, 2] rfl rfl rfl [] rfl (Nat.le_of_ble_eq_true rfl) rfl ⟨Nat.zero_le _, Nat.zero_le _⟩ (fun H locs hP hD hS => ?_)
        refine lv_istore_n (lv' := [(3, .int (mX6_at 6 k_t_seen_size f_t_seen_items v2_2)), (0, .ref a_t), (1, .ref a_o0), (2, .int v2_2)]) hx hb dX10_isAllSeenIn_21 rfl hl (by decide) rfl (fun ls hl => ?_)
        refine lv_iload_n hx hb dX10_isAllSeenIn_22 rfl (lv_at hl 0 rfl) ?_
        refine lv_bipush (v := 100) hx hb dX10_isAllSeenIn_23 (by decide) ?_
        refine lv_idiv hx hb dX10_isAllSeenIn_25 (by decide) ?_
        refine lv_iconst (v := 1) hx hb dX10_isAllSeenIn_26 (by decide) ?_
        have h35 : ∀ (s35_0 : Bool) (H : Heap) (locs : List Loc) (ls : Array Slot), va_P G vwCl [(a_t, .inr (7, [.ref a_t_text, .ref a_t_edges, .ref a_t_trial, .ref a_t_acts, .ref a_t_slots, .ref a_t_seen, .ref a_t_covers, .ref a_t_trialCovers, .ref a_t_walk, .ref a_t_least, .ref a_t_told, .int k_t_keptSlots, .long k_t_theSeed])), (a_t_seen, .inr (3, [.ref a_t_seen_items, .int k_t_seen_size])), (a_t_seen_items, .inl (cI, 6, .inl f_t_seen_items)), (a_o0, .inr (1, [.long k_o0_grid, .long k_o0_covered, .long k_o0_coverers, .int k_o0_reached]))] H → va_D A [(a_t, .inr (7, [.ref a_t_text, .ref a_t_edges, .ref a_t_trial, .ref a_t_acts, .ref a_t_slots, .ref a_t_seen, .ref a_t_covers, .ref a_t_trialCovers, .ref a_t_walk, .ref a_t_least, .ref a_t_told, .int k_t_keptSlots, .long k_t_theSeed])), (a_t_seen, .inr (3, [.ref a_t_seen_items, .int k_t_seen_size])), (a_t_seen_items, .inl (cI, 6, .inl f_t_seen_items)), (a_o0, .inr (1, [.long k_o0_grid, .long k_o0_covered, .long k_o0_coverers, .int k_o0_reached]))] → va_S A s.heap H locs → lv_has ls 6 [(0, .ref a_t), (1, .ref a_o0), (2, .int v2_2), (3, .int (mX6_at 6 k_t_seen_size f_t_seen_items v2_2))] → mX10_isAllSeenIn_J35 (mX10_isAllSeenIn_L2 k_t_seen_size f_t_seen_items k_o0_coverers n2) k_t_seen_size f_t_seen_items k_o0_coverers v2_2 s35_0 = some R → W p l e { frames := 3, cells := 0, slots := 0, locals := 65 } s m ([.ref a_t, .ref a_o0] : List Value).toArray below meth c H locs 0 0 (kQ below G [(a_t, .inr (7, [.ref a_t_text, .ref a_t_edges, .ref a_t_trial, .ref a_t_acts, .ref a_t_slots, .ref a_t_seen, .ref a_t_covers, .ref a_t_trialCovers, .ref a_t_walk, .ref a_t_least, .ref a_t_told, .int k_t_keptSlots, .long k_t_theSeed])), (a_t_seen, .inr (3, [.ref a_t_seen_items, .int k_t_seen_size])), (a_t_seen_items, .inl (cI, 6, .inl f_t_seen_items)), (a_o0, .inr (1, [.long k_o0_grid, .long k_o0_covered, .long k_o0_coverers, .int k_o0_reached]))] (some (.int (bI R))) A ([.ref a_t, .ref a_o0] : List Value).toArray s) (F0 m 35 ls [.int (bI s35_0)]) := by
          intro s35_0 H locs ls hP hD hS hl hm
          rw [mX10_isAllSeenIn_J35] at hm
          refine lv_istore (lv' := [(4, .int (bI s35_0)), (0, .ref a_t), (1, .ref a_o0), (2, .int v2_2), (3, .int (mX6_at 6 k_t_seen_size f_t_seen_items v2_2))]) hx hb dX10_isAllSeenIn_35 hl (by decide) rfl (fun ls hl => ?_)
          refine lv_aload_n hx hb dX10_isAllSeenIn_37 rfl (lv_at hl 2 rfl) ?_
          refine lv_iload_n hx hb dX10_isAllSeenIn_38 rfl (lv_at hl 4 rfl) ?_
          refine lv_bipush (v := 10) hx hb dX10_isAllSeenIn_39 (by decide) ?_
          refine lv_idiv hx hb dX10_isAllSeenIn_41 (by decide) ?_
          refine lv_bipush (v := 10) hx hb dX10_isAllSeenIn_42 (by decide) ?_
          refine lv_irem hx hb dX10_isAllSeenIn_44 (by decide) ?_
          obtain ⟨r45, hc45, hm⟩ := kbind hm
          refine kcV0 (st1 := [.int r45]) X hA (c_X2_lidOf l G cI cZ cE a_o0 k_o0_grid k_o0_covered k_o0_coverers k_o0_reached (((mX6_at 6 k_t_seen_size f_t_seen_items v2_2) / 10) - ((mX6_at 6 k_t_seen_size f_t_seen_items v2_2) / 10) / 10 * 10) r45 hc45) (cwV 1 hts gX10_isAllSeenIn_X2_lidOf rfl rfl rfl hd_X2_lidOf ⟨Nat.le_of_ble_eq_true rfl, Nat.le_of_ble_eq_true rfl⟩) 3 1 rfl rfl hl.1 dX10_isAllSeenIn_45 hP hD hS [3] rfl rfl rfl [] rfl (Nat.le_of_ble_eq_true rfl) rfl ⟨Nat.zero_le _, Nat.zero_le _⟩ (fun H locs hP hD hS => ?_)
          refine lv_iload_n hx hb dX10_isAllSeenIn_48 rfl (lv_at hl 4 rfl) ?_
          refine lv_bipush (v := 10) hx hb dX10_isAllSeenIn_49 (by decide) ?_
          refine lv_irem hx hb dX10_isAllSeenIn_51 (by decide) ?_
          have h60 : ∀ (s60_0 : Bool) (H : Heap) (locs : List Loc) (ls : Array Slot), va_P G vwCl [(a_t, .inr (7, [.ref a_t_text, .ref a_t_edges, .ref a_t_trial, .ref a_t_acts, .ref a_t_slots, .ref a_t_seen, .ref a_t_covers, .ref a_t_trialCovers, .ref a_t_walk, .ref a_t_least, .ref a_t_told, .int k_t_keptSlots, .long k_t_theSeed])), (a_t_seen, .inr (3, [.ref a_t_seen_items, .int k_t_seen_size])), (a_t_seen_items, .inl (cI, 6, .inl f_t_seen_items)), (a_o0, .inr (1, [.long k_o0_grid, .long k_o0_covered, .long k_o0_coverers, .int k_o0_reached]))] H → va_D A [(a_t, .inr (7, [.ref a_t_text, .ref a_t_edges, .ref a_t_trial, .ref a_t_acts, .ref a_t_slots, .ref a_t_seen, .ref a_t_covers, .ref a_t_trialCovers, .ref a_t_walk, .ref a_t_least, .ref a_t_told, .int k_t_keptSlots, .long k_t_theSeed])), (a_t_seen, .inr (3, [.ref a_t_seen_items, .int k_t_seen_size])), (a_t_seen_items, .inl (cI, 6, .inl f_t_seen_items)), (a_o0, .inr (1, [.long k_o0_grid, .long k_o0_covered, .long k_o0_coverers, .int k_o0_reached]))] → va_S A s.heap H locs → lv_has ls 6 [(0, .ref a_t), (1, .ref a_o0), (2, .int v2_2), (4, .int (bI s35_0))] → mX10_isAllSeenIn_J60 (mX10_isAllSeenIn_L2 k_t_seen_size f_t_seen_items k_o0_coverers n2) v2_2 s35_0 s60_0 = some R → W p l e { frames := 3, cells := 0, slots := 0, locals := 65 } s m ([.ref a_t, .ref a_o0] : List Value).toArray below meth c H locs 0 0 (kQ below G [(a_t, .inr (7, [.ref a_t_text, .ref a_t_edges, .ref a_t_trial, .ref a_t_acts, .ref a_t_slots, .ref a_t_seen, .ref a_t_covers, .ref a_t_trialCovers, .ref a_t_walk, .ref a_t_least, .ref a_t_told, .int k_t_keptSlots, .long k_t_theSeed])), (a_t_seen, .inr (3, [.ref a_t_seen_items, .int k_t_seen_size])), (a_t_seen_items, .inl (cI, 6, .inl f_t_seen_items)), (a_o0, .inr (1, [.long k_o0_grid, .long k_o0_covered, .long k_o0_coverers, .int k_o0_reached]))] (some (.int (bI R))) A ([.ref a_t, .ref a_o0] : List Value).toArray s) (F0 m 60 ls [.int (bI s60_0)]) := by
            intro s60_0 H locs ls hP hD hS hl hm
            rw [mX10_isAllSeenIn_J60] at hm
            refine lv_istore (lv' := [(5, .int (bI s60_0)), (0, .ref a_t), (1, .ref a_o0), (2, .int v2_2), (4, .int (bI s35_0))]) hx hb dX10_isAllSeenIn_60 hl (by decide) rfl (fun ls hl => ?_)
            refine lv_iload hx hb dX10_isAllSeenIn_62 (lv_at hl 0 rfl) ?_
            refine lv_iload hx hb dX10_isAllSeenIn_64 (lv_at hl 4 rfl) ?_
            refine lv_icmp_eq (tgt := 71) hx hb dX10_isAllSeenIn_66 (by decide) (fun c66 => ?_) (fun c66 => ?_)
            · rw [if_pos c66] at hm
              refine lv_iinc (v := v2_2 + 1) (lv' := [(2, .int (v2_2 + 1)), (5, .int (bI s60_0)), (0, .ref a_t), (1, .ref a_o0), (4, .int (bI s35_0))]) hx hb dX10_isAllSeenIn_71 hl (k := 3) rfl rfl (by decide) rfl (fun ls hl => ?_)
              refine lv_goto (tgt := 2) hx hb dX10_isAllSeenIn_74 (by decide) ?_
              exact ih2 (v2_2 + 1) _ _ _ hP hD hS (lv_sub hl [2, 3, 0] rfl) hm
            · rw [if_neg c66] at hm
              refine lv_iconst (v := 0) hx hb dX10_isAllSeenIn_69 (by decide) ?_
              have hm := Option.some.inj hm
              subst hm
              exact k_zret (v := false) X rfl dX10_isAllSeenIn_70 hP hD hS
          refine lv_icmp_ne (tgt := 59) hx hb dX10_isAllSeenIn_52 (by decide) (fun c52 => ?_) (fun c52 => ?_)
          · rw [if_neg c52] at hm
            refine lv_iconst (v := 0) hx hb dX10_isAllSeenIn_59 (by decide) ?_
            exact h60 false _ _ _ hP hD hS (lv_sub hl [1, 2, 3, 0] rfl) hm
          · rw [if_pos c52] at hm
            refine lv_iconst (v := 1) hx hb dX10_isAllSeenIn_55 (by decide) ?_
            refine lv_goto (tgt := 60) hx hb dX10_isAllSeenIn_56 (by decide) ?_
            exact h60 true _ _ _ hP hD hS (lv_sub hl [1, 2, 3, 0] rfl) hm
        refine lv_icmp_ne (tgt := 34) hx hb dX10_isAllSeenIn_27 (by decide) (fun c27 => ?_) (fun c27 => ?_)
        · rw [if_neg c27] at hm
          refine lv_iconst (v := 0) hx hb dX10_isAllSeenIn_34 (by decide) ?_
          exact h35 false _ _ _ hP hD hS (lv_sub hl [1, 2, 3, 0] rfl) hm
        · rw [if_pos c27] at hm
          refine lv_iconst (v := 1) hx hb dX10_isAllSeenIn_30 (by decide) ?_
          refine lv_goto (tgt := 35) hx hb dX10_isAllSeenIn_31 (by decide) ?_
          exact h35 true _ _ _ hP hD hS (lv_sub hl [1, 2, 3, 0] rfl) hm
  exact h2 kFU 0 _ _ _ hP hD hS (lv_sub hl [1, 2, 0] rfl) hm
theorem hd_X10_isAllSeenIn : yX10_isAllSeenIn.cls = RX10 ∧ yX10_isAllSeenIn.cls ≠ "java/lang/invoke/MethodHandle" ∧ yX10_isAllSeenIn.cls ≠ "java/lang/invoke/VarHandle" ∧ (parseMethodDescriptor yX10_isAllSeenIn.desc).map (fun d => d.parameters.length) = some 1 := by decide +kernel
/-! CoverOrder mayBeMissing -/
set_option maxRecDepth 100000 in
set_option maxHeartbeats 4000000 in
theorem c_X10_mayBeMissing (l : Launch) (G : va_G) (cI cZ cE : ClassId) (a_t a_t_text a_t_edges a_t_trial a_t_acts a_t_slots a_t_seen a_t_covers a_t_trialCovers a_t_walk a_t_least a_t_told a_t_edges_row a_t_edges_row_items a_t_seen_items : Nat) (k_t_keptSlots : Int32) (k_t_theSeed : Int64) (k_t_edges_knots : Int32) (k_t_edges_nextStamp : Int32) (k_t_edges_row_size : Int32) (f_t_edges_row_items : Nat → Int32) (k_t_seen_size : Int32) (f_t_seen_items : Nat → Int32) (k_t_trialCovers_grid : Int64) (k_t_trialCovers_covered : Int64) (k_t_trialCovers_coverers : Int64) (k_t_trialCovers_reached : Int32) (p1 : Int32) (p2 : Int32) (R : Bool × Int64 × Int64 × Int64 × Int32) (hm : mX10_mayBeMissing k_t_edges_row_size f_t_edges_row_items k_t_seen_size f_t_seen_items k_t_trialCovers_grid k_t_trialCovers_covered k_t_trialCovers_coverers k_t_trialCovers_reached p1 p2 = some R) : kM l yX10_mayBeMissing wsX10_mayBeMissing { frames := 4, cells := 0, slots := 0, locals := 94 } G cI cZ cE [.ref a_t, .int p1, .int p2] [(a_t, .inr (7, [.ref a_t_text, .ref a_t_edges, .ref a_t_trial, .ref a_t_acts, .ref a_t_slots, .ref a_t_seen, .ref a_t_covers, .ref a_t_trialCovers, .ref a_t_walk, .ref a_t_least, .ref a_t_told, .int k_t_keptSlots, .long k_t_theSeed])), (a_t_edges, .inr (2, [.ref a_t_edges_row, .int k_t_edges_knots, .int k_t_edges_nextStamp])), (a_t_edges_row, .inr (3, [.ref a_t_edges_row_items, .int k_t_edges_row_size])), (a_t_edges_row_items, .inl (cI, 24, .inl f_t_edges_row_items)), (a_t_seen, .inr (3, [.ref a_t_seen_items, .int k_t_seen_size])), (a_t_seen_items, .inl (cI, 6, .inl f_t_seen_items)), (a_t_trialCovers, .inr (1, [.long k_t_trialCovers_grid, .long k_t_trialCovers_covered, .long k_t_trialCovers_coverers, .int k_t_trialCovers_reached]))] [(a_t, .inr (7, [.ref a_t_text, .ref a_t_edges, .ref a_t_trial, .ref a_t_acts, .ref a_t_slots, .ref a_t_seen, .ref a_t_covers, .ref a_t_trialCovers, .ref a_t_walk, .ref a_t_least, .ref a_t_told, .int k_t_keptSlots, .long k_t_theSeed])), (a_t_edges, .inr (2, [.ref a_t_edges_row, .int k_t_edges_knots, .int k_t_edges_nextStamp])), (a_t_edges_row, .inr (3, [.ref a_t_edges_row_items, .int k_t_edges_row_size])), (a_t_edges_row_items, .inl (cI, 24, .inl f_t_edges_row_items)), (a_t_seen, .inr (3, [.ref a_t_seen_items, .int k_t_seen_size])), (a_t_seen_items, .inl (cI, 6, .inl f_t_seen_items)), (a_t_trialCovers, .inr (1, [.long R.2.1, .long R.2.2.1, .long R.2.2.2.1, .int R.2.2.2.2]))] (some (.int (bI R.1))) := by
  refine kM_of cX10_mayBeMissing 3 (some .boolean) RX10 (by decide) rfl rfl (Nat.le_of_ble_eq_true rfl) ?_
  intro p e s m below meth c A ls X hA hP hD hS hl
  have hx := X.1.1
  have hb := X.1.2.1
  have hts := X.1.2.2.2.2
  have hown := X.1.2.2.2.1
  have hK := X.2.2.2.1
  have l_19 : (.fieldLink RX10 19 "CoverOrder" "edges" "LCoverOrder$Edges;" : Cond).before _ s = true := hts _ (List.mem_of_getElem? (i := 1) (by decide +kernel))
  have i_X10 : ∀ w ∈ u_ws RX10 TX10 13, w ∈ wsX10_mayBeMissing := k_in _ [109, 110, 111, 112, 113, 114, 115, 116, 117, 118, 119, 120, 121] (by decide +kernel)
  have l_53 : (.fieldLink RX10 53 "CoverOrder" "trialCovers" "LCoverOrder$Covers;" : Cond).before _ s = true := hts _ (List.mem_of_getElem? (i := 2) (by decide +kernel))
  have hl : lv_has ls 3 [(0, .ref a_t), (1, .int p1), (2, .int p2)] := hl
  rw [mX10_mayBeMissing] at hm
  refine lv_iload_n hx hb dX10_mayBeMissing_0 rfl (lv_at hl 1 rfl) ?_
  refine lv_iload_n hx hb dX10_mayBeMissing_1 rfl (lv_at hl 2 rfl) ?_
  refine lv_icmp_eq (tgt := 17) hx hb dX10_mayBeMissing_2 (by decide) (fun c2 => ?_) (fun c2 => ?_)
  · rw [if_pos c2] at hm
    refine lv_iconst (v := 0) hx hb dX10_mayBeMissing_17 (by decide) ?_
    have hm := Option.some.inj hm
    subst hm
    exact k_zret (v := false) X rfl dX10_mayBeMissing_18 hP hD hS
  · rw [if_neg c2] at hm
    refine lv_aload_n hx hb dX10_mayBeMissing_5 rfl (lv_at hl 0 rfl) ?_
    refine va_get (D := G) (ci := 7) (v := .ref a_t_edges) (C := RX10) (T := TX10) (N := 13) hx hb hts i_X10 hown hK hP 0 rfl rfl 1 (by decide) l_19 (fun _ h9 => h9) rfl dX10_mayBeMissing_6 ?_
    refine lv_iload_n hx hb dX10_mayBeMissing_9 rfl (lv_at hl 1 rfl) ?_
    refine lv_iload_n hx hb dX10_mayBeMissing_10 rfl (lv_at hl 2 rfl) ?_
    obtain ⟨r11, hc11, hm⟩ := kbind hm
    refine kcV0 (st1 := [.int (bI r11)]) X hA (c_X3_has l G cI cZ cE a_t_edges a_t_edges_row a_t_edges_row_items k_t_edges_knots k_t_edges_nextStamp k_t_edges_row_size f_t_edges_row_items p1 p2 r11 hc11) (cwV 2 hts gX10_mayBeMissing_X3_has rfl rfl rfl hd_X3_has ⟨Nat.le_of_ble_eq_true rfl, Nat.le_of_ble_eq_true rfl⟩) 1 2 rfl rfl hl.1 dX10_mayBeMissing_11 hP hD hS [1, 2, 3] rfl rfl rfl [] rfl (Nat.le_of_ble_eq_true rfl) rfl ⟨Nat.zero_le _, Nat.zero_le _⟩ (fun H locs hP hD hS => ?_)
    refine lv_if_eq (tgt := 19) hx hb dX10_mayBeMissing_14 (by decide) (fun c14 => ?_) (fun c14 => ?_)
    · have c14 := kb0 c14
      rw [if_neg c14] at hm
      refine lv_aload_n hx hb dX10_mayBeMissing_19 rfl (lv_at hl 0 rfl) ?_
      refine va_get (D := G) (ci := 7) (v := .ref a_t_trialCovers) (C := RX10) (T := TX10) (N := 13) hx hb hts i_X10 hown hK hP 0 rfl rfl 7 (by decide) l_53 (fun _ h9 => h9) rfl dX10_mayBeMissing_20 ?_
      refine lv_aload_n hx hb dX10_mayBeMissing_23 rfl (lv_at hl 0 rfl) ?_
      refine va_get (D := G) (ci := 7) (v := .ref a_t_edges) (C := RX10) (T := TX10) (N := 13) hx hb hts i_X10 hown hK hP 0 rfl rfl 1 (by decide) l_19 (fun _ h9 => h9) rfl dX10_mayBeMissing_24 ?_
      obtain ⟨r27, hc27, hm⟩ := kbind hm
      refine kcV0 (st1 := [.long r27, .ref a_t_trialCovers]) X hA (c_X3_grid l G cI cZ cE a_t_edges a_t_edges_row a_t_edges_row_items k_t_edges_knots k_t_edges_nextStamp k_t_edges_row_size f_t_edges_row_items r27 hc27) (cwV 0 hts gX10_mayBeMissing_X3_grid rfl rfl rfl hd_X3_grid ⟨Nat.le_of_ble_eq_true rfl, Nat.le_of_ble_eq_true rfl⟩) 1 2 rfl rfl hl.1 dX10_mayBeMissing_27 hP hD hS [1, 2, 3] rfl rfl rfl [.ref a_t_trialCovers] rfl (Nat.le_of_ble_eq_true rfl) rfl ⟨Nat.zero_le _, Nat.zero_le _⟩ (fun H locs hP hD hS => ?_)
      refine lv_iload_n hx hb dX10_mayBeMissing_30 rfl (lv_at hl 1 rfl) ?_
      refine lv_iload_n hx hb dX10_mayBeMissing_31 rfl (lv_at hl 2 rfl) ?_
      refine kcS0 (st1 := [.long (mX5_flipped r27 p1 p2), .ref a_t_trialCovers]) X hA (c_X5_flipped l G cI cZ cE r27 p1 p2 _ rfl) (va_cwS 3 hts gX10_mayBeMissing_X5_flipped rfl rfl rfl hd_X5_flipped ⟨Nat.le_of_ble_eq_true rfl, Nat.le_of_ble_eq_true rfl⟩) hl.1 dX10_mayBeMissing_32 hP hD hS [] rfl rfl rfl [.ref a_t_trialCovers] rfl (Nat.le_of_ble_eq_true rfl) rfl ⟨Nat.zero_le _, Nat.zero_le _⟩ (fun H locs hP hD hS => ?_)
      obtain ⟨r35, hc35, hm⟩ := kbind hm
      refine kcV (ws1 := [(a_t, .inr (7, [.ref a_t_text, .ref a_t_edges, .ref a_t_trial, .ref a_t_acts, .ref a_t_slots, .ref a_t_seen, .ref a_t_covers, .ref a_t_trialCovers, .ref a_t_walk, .ref a_t_least, .ref a_t_told, .int k_t_keptSlots, .long k_t_theSeed])), (a_t_edges, .inr (2, [.ref a_t_edges_row, .int k_t_edges_knots, .int k_t_edges_nextStamp])), (a_t_edges_row, .inr (3, [.ref a_t_edges_row_items, .int k_t_edges_row_size])), (a_t_edges_row_items, .inl (cI, 24, .inl f_t_edges_row_items)), (a_t_seen, .inr (3, [.ref a_t_seen_items, .int k_t_seen_size])), (a_t_seen_items, .inl (cI, 6, .inl f_t_seen_items)), (a_t_trialCovers, .inr (1, [.long r35.1, .long r35.2.1, .long r35.2.2.1, .int r35.2.2.2]))]) (st1 := []) X hA (c_X2_learn l G cI cZ cE a_t_trialCovers k_t_trialCovers_grid k_t_trialCovers_covered k_t_trialCovers_coverers k_t_trialCovers_reached (mX5_flipped r27 p1 p2) r35 hc35) (cwV 1 hts gX10_mayBeMissing_X2_learn rfl rfl rfl hd_X2_learn ⟨Nat.le_of_ble_eq_true rfl, Nat.le_of_ble_eq_true rfl⟩) 6 1 rfl rfl hl.1 dX10_mayBeMissing_35 hP hD hS [6] rfl rfl rfl rfl rfl [] rfl (Nat.le_of_ble_eq_true rfl) rfl ⟨Nat.zero_le _, Nat.zero_le _⟩ (fun H locs hP hD hS => ?_)
      refine lv_aload_n hx hb dX10_mayBeMissing_38 rfl (lv_at hl 0 rfl) ?_
      refine lv_aload_n hx hb dX10_mayBeMissing_39 rfl (lv_at hl 0 rfl) ?_
      refine va_get (D := G) (ci := 7) (v := .ref a_t_trialCovers) (C := RX10) (T := TX10) (N := 13) hx hb hts i_X10 hown hK hP 0 rfl rfl 7 (by decide) l_53 (fun _ h9 => h9) rfl dX10_mayBeMissing_40 ?_
      obtain ⟨r43, hc43, hm⟩ := kbind hm
      refine kcV0 (st1 := [.int (bI r43)]) X hA (c_X10_isAllSeenIn l G cI cZ cE a_t a_t_text a_t_edges a_t_trial a_t_acts a_t_slots a_t_seen a_t_covers a_t_trialCovers a_t_walk a_t_least a_t_told a_t_seen_items a_t_trialCovers k_t_keptSlots k_t_theSeed k_t_seen_size f_t_seen_items r35.1 r35.2.1 r35.2.2.1 r35.2.2.2 r43 hc43) (cwV 1 hts gX10_mayBeMissing_X10_isAllSeenIn rfl rfl rfl hd_X10_isAllSeenIn ⟨Nat.le_of_ble_eq_true rfl, Nat.le_of_ble_eq_true rfl⟩) 0 7 rfl rfl hl.1 dX10_mayBeMissing_43 hP hD hS [0, 4, 5, 6] rfl rfl rfl [] rfl (Nat.le_of_ble_eq_true rfl) rfl ⟨Nat.zero_le _, Nat.zero_le _⟩ (fun H locs hP hD hS => ?_)
      have hm := Option.some.inj hm
      subst hm
      exact k_zret (v := r43) X rfl dX10_mayBeMissing_46 hP hD hS
    · have c14 := kb1 c14
      rw [if_pos c14] at hm
      refine lv_iconst (v := 0) hx hb dX10_mayBeMissing_17 (by decide) ?_
      have hm := Option.some.inj hm
      subst hm
      exact k_zret (v := false) X rfl dX10_mayBeMissing_18 hP hD hS
theorem hd_X10_mayBeMissing : yX10_mayBeMissing.cls = RX10 ∧ yX10_mayBeMissing.cls ≠ "java/lang/invoke/MethodHandle" ∧ yX10_mayBeMissing.cls ≠ "java/lang/invoke/VarHandle" ∧ (parseMethodDescriptor yX10_mayBeMissing.desc).map (fun d => d.parameters.length) = some 2 := by decide +kernel
/-! CoverOrder missing -/
set_option maxRecDepth 100000 in
set_option maxHeartbeats 4000000 in
theorem c_X10_missing (l : Launch) (G : va_G) (cI cZ cE : ClassId) (a_t a_t_text a_t_edges a_t_trial a_t_acts a_t_slots a_t_seen a_t_covers a_t_trialCovers a_t_walk a_t_least a_t_told a_t_edges_row a_t_edges_row_items a_t_seen_items : Nat) (k_t_keptSlots : Int32) (k_t_theSeed : Int64) (k_t_edges_knots : Int32) (k_t_edges_nextStamp : Int32) (k_t_edges_row_size : Int32) (f_t_edges_row_items : Nat → Int32) (k_t_seen_size : Int32) (f_t_seen_items : Nat → Int32) (k_t_trialCovers_grid : Int64) (k_t_trialCovers_covered : Int64) (k_t_trialCovers_coverers : Int64) (k_t_trialCovers_reached : Int32) (p1 : Int32) (R : Int32 × Int64 × Int64 × Int64 × Int32) (hm : mX10_missing k_t_edges_knots k_t_edges_row_size f_t_edges_row_items k_t_seen_size f_t_seen_items k_t_trialCovers_grid k_t_trialCovers_covered k_t_trialCovers_coverers k_t_trialCovers_reached p1 = some R) : kM l yX10_missing wsX10_missing { frames := 5, cells := 0, slots := 0, locals := 116 } G cI cZ cE [.ref a_t, .int p1] [(a_t, .inr (7, [.ref a_t_text, .ref a_t_edges, .ref a_t_trial, .ref a_t_acts, .ref a_t_slots, .ref a_t_seen, .ref a_t_covers, .ref a_t_trialCovers, .ref a_t_walk, .ref a_t_least, .ref a_t_told, .int k_t_keptSlots, .long k_t_theSeed])), (a_t_edges, .inr (2, [.ref a_t_edges_row, .int k_t_edges_knots, .int k_t_edges_nextStamp])), (a_t_edges_row, .inr (3, [.ref a_t_edges_row_items, .int k_t_edges_row_size])), (a_t_edges_row_items, .inl (cI, 24, .inl f_t_edges_row_items)), (a_t_seen, .inr (3, [.ref a_t_seen_items, .int k_t_seen_size])), (a_t_seen_items, .inl (cI, 6, .inl f_t_seen_items)), (a_t_trialCovers, .inr (1, [.long k_t_trialCovers_grid, .long k_t_trialCovers_covered, .long k_t_trialCovers_coverers, .int k_t_trialCovers_reached]))] [(a_t, .inr (7, [.ref a_t_text, .ref a_t_edges, .ref a_t_trial, .ref a_t_acts, .ref a_t_slots, .ref a_t_seen, .ref a_t_covers, .ref a_t_trialCovers, .ref a_t_walk, .ref a_t_least, .ref a_t_told, .int k_t_keptSlots, .long k_t_theSeed])), (a_t_edges, .inr (2, [.ref a_t_edges_row, .int k_t_edges_knots, .int k_t_edges_nextStamp])), (a_t_edges_row, .inr (3, [.ref a_t_edges_row_items, .int k_t_edges_row_size])), (a_t_edges_row_items, .inl (cI, 24, .inl f_t_edges_row_items)), (a_t_seen, .inr (3, [.ref a_t_seen_items, .int k_t_seen_size])), (a_t_seen_items, .inl (cI, 6, .inl f_t_seen_items)), (a_t_trialCovers, .inr (1, [.long R.2.1, .long R.2.2.1, .long R.2.2.2.1, .int R.2.2.2.2]))] (some (.int R.1)) := by
  refine kM_of cX10_missing 6 (some .int) RX10 (by decide) rfl rfl (Nat.le_of_ble_eq_true rfl) ?_
  intro p e s m below meth c A ls X hA hP hD hS hl
  have hx := X.1.1
  have hb := X.1.2.1
  have hts := X.1.2.2.2.2
  have hown := X.1.2.2.2.1
  have hK := X.2.2.2.1
  have l_19 : (.fieldLink RX10 19 "CoverOrder" "edges" "LCoverOrder$Edges;" : Cond).before _ s = true := hts _ (List.mem_of_getElem? (i := 1) (by decide +kernel))
  have i_X10 : ∀ w ∈ u_ws RX10 TX10 13, w ∈ wsX10_missing := k_in _ [122, 123, 124, 125, 126, 127, 128, 129, 130, 131, 132, 133, 134] (by decide +kernel)
  have l_233 := va_Nw.use (A := ([.ref a_t, .int p1] : List Value).toArray) rfl (X.2.2.2.2.1 _ (List.mem_of_getElem? (i := 0) rfl))
  have i_X3 : ∀ w ∈ u_ws RX3 TX3 3, w ∈ wsX10_missing := k_in _ [135, 136, 137] (by decide +kernel)
  have hl : lv_has ls 6 [(0, .ref a_t), (1, .int p1)] := hl
  rw [mX10_missing] at hm
  refine lv_iload_n hx hb dX10_missing_0 rfl (lv_at hl 1 rfl) ?_
  have h12 : ∀ (H : Heap) (locs : List Loc) (ls : Array Slot), va_P G vwCl [(a_t, .inr (7, [.ref a_t_text, .ref a_t_edges, .ref a_t_trial, .ref a_t_acts, .ref a_t_slots, .ref a_t_seen, .ref a_t_covers, .ref a_t_trialCovers, .ref a_t_walk, .ref a_t_least, .ref a_t_told, .int k_t_keptSlots, .long k_t_theSeed])), (a_t_edges, .inr (2, [.ref a_t_edges_row, .int k_t_edges_knots, .int k_t_edges_nextStamp])), (a_t_edges_row, .inr (3, [.ref a_t_edges_row_items, .int k_t_edges_row_size])), (a_t_edges_row_items, .inl (cI, 24, .inl f_t_edges_row_items)), (a_t_seen, .inr (3, [.ref a_t_seen_items, .int k_t_seen_size])), (a_t_seen_items, .inl (cI, 6, .inl f_t_seen_items)), (a_t_trialCovers, .inr (1, [.long k_t_trialCovers_grid, .long k_t_trialCovers_covered, .long k_t_trialCovers_coverers, .int k_t_trialCovers_reached]))] H → va_D A [(a_t, .inr (7, [.ref a_t_text, .ref a_t_edges, .ref a_t_trial, .ref a_t_acts, .ref a_t_slots, .ref a_t_seen, .ref a_t_covers, .ref a_t_trialCovers, .ref a_t_walk, .ref a_t_least, .ref a_t_told, .int k_t_keptSlots, .long k_t_theSeed])), (a_t_edges, .inr (2, [.ref a_t_edges_row, .int k_t_edges_knots, .int k_t_edges_nextStamp])), (a_t_edges_row, .inr (3, [.ref a_t_edges_row_items, .int k_t_edges_row_size])), (a_t_edges_row_items, .inl (cI, 24, .inl f_t_edges_row_items)), (a_t_seen, .inr (3, [.ref a_t_seen_items, .int k_t_seen_size])), (a_t_seen_items, .inl (cI, 6, .inl f_t_seen_items)), (a_t_trialCovers, .inr (1, [.long k_t_trialCovers_grid, .long k_t_trialCovers_covered, .long k_t_trialCovers_coverers, .int k_t_trialCovers_reached]))] → va_S A s.heap H locs → lv_has ls 6 [(0, .ref a_t), (1, .int p1)] → mX10_missing_J12 k_t_edges_knots k_t_edges_row_size f_t_edges_row_items k_t_seen_size f_t_seen_items k_t_trialCovers_grid k_t_trialCovers_covered k_t_trialCovers_coverers k_t_trialCovers_reached p1 = some R → W p l e { frames := 5, cells := 0, slots := 0, locals := 116 } s m ([.ref a_t, .int p1] : List Value).toArray below meth c H locs 0 0 (kQ below G [(a_t, .inr (7, [.ref a_t_text, .ref a_t_edges, .ref a_t_trial, .ref a_t_acts, .ref a_t_slots, .ref a_t_seen, .ref a_t_covers, .ref a_t_trialCovers, .ref a_t_walk, .ref a_t_least, .ref a_t_told, .int k_t_keptSlots, .long k_t_theSeed])), (a_t_edges, .inr (2, [.ref a_t_edges_row, .int k_t_edges_knots, .int k_t_edges_nextStamp])), (a_t_edges_row, .inr (3, [.ref a_t_edges_row_items, .int k_t_edges_row_size])), (a_t_edges_row_items, .inl (cI, 24, .inl f_t_edges_row_items)), (a_t_seen, .inr (3, [.ref a_t_seen_items, .int k_t_seen_size])), (a_t_seen_items, .inl (cI, 6, .inl f_t_seen_items)), (a_t_trialCovers, .inr (1, [.long R.2.1, .long R.2.2.1, .long R.2.2.2.1, .int R.2.2.2.2]))] (some (.int R.1)) A ([.ref a_t, .int p1] : List Value).toArray s) (F0 m 12 ls []) := by
    intro H locs ls hP hD hS hl hm
    rw [mX10_missing_J12] at hm
    refine lv_aload_n hx hb dX10_missing_12 rfl (lv_at hl 0 rfl) ?_
    refine va_get (D := G) (ci := 7) (v := .ref a_t_edges) (C := RX10) (T := TX10) (N := 13) hx hb hts i_X10 hown hK hP 0 rfl rfl 1 (by decide) l_19 (fun _ h9 => h9) rfl dX10_missing_13 ?_
    refine kcV0 (st1 := [.int (bI (mX3_isFull k_t_edges_row_size))]) X hA (c_X3_isFull l G cI cZ cE a_t_edges a_t_edges_row a_t_edges_row_items k_t_edges_knots k_t_edges_nextStamp k_t_edges_row_size f_t_edges_row_items _ rfl) (cwV 0 hts gX10_missing_X3_isFull rfl rfl rfl hd_X3_isFull ⟨Nat.le_of_ble_eq_true rfl, Nat.le_of_ble_eq_true rfl⟩) 1 2 rfl rfl hl.1 dX10_missing_16 hP hD hS [1, 2, 3] rfl rfl rfl [] rfl (Nat.le_of_ble_eq_true rfl) rfl ⟨Nat.zero_le _, Nat.zero_le _⟩ (fun H locs hP hD hS => ?_)
    refine lv_if_eq (tgt := 25) hx hb dX10_missing_19 (by decide) (fun c19 => ?_) (fun c19 => ?_)
    · have c19 := kb0 c19
      rw [if_neg c19] at hm
      refine lv_iconst (v := 0) hx hb dX10_missing_25 (by decide) ?_
      refine lv_istore_n (lv' := [(2, .int 0), (0, .ref a_t), (1, .int p1)]) hx hb dX10_missing_26 rfl hl (by decide) rfl (fun ls hl => ?_)
      refine lv_bipush (v := (-9)) hx hb dX10_missing_27 (by decide) ?_
      refine lv_istore_n (lv' := [(3, .int (-9)), (2, .int 0), (0, .ref a_t), (1, .int p1)]) hx hb dX10_missing_29 rfl hl (by decide) rfl (fun ls hl => ?_)
      refine lv_iconst (v := 0) hx hb dX10_missing_30 (by decide) ?_
      refine lv_istore (lv' := [(4, .int 0), (3, .int (-9)), (2, .int 0), (0, .ref a_t), (1, .int p1)]) hx hb dX10_missing_31 hl (by decide) rfl (fun ls hl => ?_)
      have h33 : ∀ (n33 : Nat), ∀ (v33_2 : Int32) (v33_3 : Int32) (v33_4 : Int32) (w33_k_t_trialCovers_grid : Int64) (w33_k_t_trialCovers_covered : Int64) (w33_k_t_trialCovers_coverers : Int64) (w33_k_t_trialCovers_reached : Int32) (H : Heap) (locs : List Loc) (ls : Array Slot), va_P G vwCl [(a_t, .inr (7, [.ref a_t_text, .ref a_t_edges, .ref a_t_trial, .ref a_t_acts, .ref a_t_slots, .ref a_t_seen, .ref a_t_covers, .ref a_t_trialCovers, .ref a_t_walk, .ref a_t_least, .ref a_t_told, .int k_t_keptSlots, .long k_t_theSeed])), (a_t_edges, .inr (2, [.ref a_t_edges_row, .int k_t_edges_knots, .int k_t_edges_nextStamp])), (a_t_edges_row, .inr (3, [.ref a_t_edges_row_items, .int k_t_edges_row_size])), (a_t_edges_row_items, .inl (cI, 24, .inl f_t_edges_row_items)), (a_t_seen, .inr (3, [.ref a_t_seen_items, .int k_t_seen_size])), (a_t_seen_items, .inl (cI, 6, .inl f_t_seen_items)), (a_t_trialCovers, .inr (1, [.long w33_k_t_trialCovers_grid, .long w33_k_t_trialCovers_covered, .long w33_k_t_trialCovers_coverers, .int w33_k_t_trialCovers_reached]))] H → va_D A [(a_t, .inr (7, [.ref a_t_text, .ref a_t_edges, .ref a_t_trial, .ref a_t_acts, .ref a_t_slots, .ref a_t_seen, .ref a_t_covers, .ref a_t_trialCovers, .ref a_t_walk, .ref a_t_least, .ref a_t_told, .int k_t_keptSlots, .long k_t_theSeed])), (a_t_edges, .inr (2, [.ref a_t_edges_row, .int k_t_edges_knots, .int k_t_edges_nextStamp])), (a_t_edges_row, .inr (3, [.ref a_t_edges_row_items, .int k_t_edges_row_size])), (a_t_edges_row_items, .inl (cI, 24, .inl f_t_edges_row_items)), (a_t_seen, .inr (3, [.ref a_t_seen_items, .int k_t_seen_size])), (a_t_seen_items, .inl (cI, 6, .inl f_t_seen_items)), (a_t_trialCovers, .inr (1, [.long w33_k_t_trialCovers_grid, .long w33_k_t_trialCovers_covered, .long w33_k_t_trialCovers_coverers, .int w33_k_t_trialCovers_reached]))] → va_S A s.heap H locs → lv_has ls 6 [(0, .ref a_t), (1, .int p1), (2, .int v33_2), (3, .int v33_3), (4, .int v33_4)] → mX10_missing_L33 k_t_edges_knots k_t_edges_row_size f_t_edges_row_items k_t_seen_size f_t_seen_items p1 n33 v33_2 v33_3 v33_4 w33_k_t_trialCovers_grid w33_k_t_trialCovers_covered w33_k_t_trialCovers_coverers w33_k_t_trialCovers_reached = some R → W p l e { frames := 5, cells := 0, slots := 0, locals := 116 } s m ([.ref a_t, .int p1] : List Value).toArray below meth c H locs 0 0 (kQ below G [(a_t, .inr (7, [.ref a_t_text, .ref a_t_edges, .ref a_t_trial, .ref a_t_acts, .ref a_t_slots, .ref a_t_seen, .ref a_t_covers, .ref a_t_trialCovers, .ref a_t_walk, .ref a_t_least, .ref a_t_told, .int k_t_keptSlots, .long k_t_theSeed])), (a_t_edges, .inr (2, [.ref a_t_edges_row, .int k_t_edges_knots, .int k_t_edges_nextStamp])), (a_t_edges_row, .inr (3, [.ref a_t_edges_row_items, .int k_t_edges_row_size])), (a_t_edges_row_items, .inl (cI, 24, .inl f_t_edges_row_items)), (a_t_seen, .inr (3, [.ref a_t_seen_items, .int k_t_seen_size])), (a_t_seen_items, .inl (cI, 6, .inl f_t_seen_items)), (a_t_trialCovers, .inr (1, [.long R.2.1, .long R.2.2.1, .long R.2.2.2.1, .int R.2.2.2.2]))] (some (.int R.1)) A ([.ref a_t, .int p1] : List Value).toArray s) (F0 m 33 ls []) := by
        intro n33
        induction n33 with
        | zero => intro v33_2 v33_3 v33_4 w33_k_t_trialCovers_grid w33_k_t_trialCovers_covered w33_k_t_trialCovers_coverers w33_k_t_trialCovers_reached H locs ls hP hD hS hl hm; rw [mX10_missing_L33] at hm; cases hm
        | succ n33 ih33 =>
          intro v33_2 v33_3 v33_4 w33_k_t_trialCovers_grid w33_k_t_trialCovers_covered w33_k_t_trialCovers_coverers w33_k_t_trialCovers_reached H locs ls hP hD hS hl hm
          rw [mX10_missing_L33] at hm
          refine lv_iload hx hb dX10_missing_33 (lv_at hl 4 rfl) ?_
          refine lv_aload_n hx hb dX10_missing_35 rfl (lv_at hl 0 rfl) ?_
          refine va_get (D := G) (ci := 7) (v := .ref a_t_edges) (C := RX10) (T := TX10) (N := 13) hx hb hts i_X10 hown hK hP 0 rfl rfl 1 (by decide) l_19 (fun _ h9 => h9) rfl dX10_missing_36 ?_
          refine va_getN (D := G) (ci := 2) (v := .int k_t_edges_knots) (C := RX3) (T := TX3) (N := 3) hx hb hts i_X3 hown hK hP 1 rfl rfl 1 (by decide) l_233 (fun _ h9 => h9) rfl dX10_missing_39 ?_
          refine lv_icmp_ge (tgt := 102) hx hb dX10_missing_42 (by decide) (fun c42 => ?_) (fun c42 => ?_)
          · rw [if_pos c42] at hm
            refine lv_iload_n hx hb dX10_missing_102 rfl (lv_at hl 1 rfl) ?_
            refine lv_if_ne (tgt := 110) hx hb dX10_missing_103 (by decide) (fun c103 => ?_) (fun c103 => ?_)
            · rw [if_neg c103] at hm
              refine lv_iload_n hx hb dX10_missing_110 rfl (lv_at hl 3 rfl) ?_
              have hm := Option.some.inj hm
              subst hm
              exact k_iret (v := v33_3) X rfl dX10_missing_111 hP hD hS
            · rw [if_pos c103] at hm
              refine lv_iload_n hx hb dX10_missing_106 rfl (lv_at hl 2 rfl) ?_
              refine lv_goto (tgt := 111) hx hb dX10_missing_107 (by decide) ?_
              have hm := Option.some.inj hm
              subst hm
              exact k_iret (v := v33_2) X rfl dX10_missing_111 hP hD hS
          · rw [if_neg c42] at hm
            refine lv_iconst (v := 0) hx hb dX10_missing_45 (by decide) ?_
            refine lv_istore (lv' := [(5, .int 0), (0, .ref a_t), (1, .int p1), (2, .int v33_2), (3, .int v33_3), (4, .int v33_4)]) hx hb dX10_missing_46 hl (by decide) rfl (fun ls hl => ?_)
            have h48 : ∀ (n48 : Nat), ∀ (v48_2 : Int32) (v48_3 : Int32) (v48_5 : Int32) (w48_k_t_trialCovers_grid : Int64) (w48_k_t_trialCovers_covered : Int64) (w48_k_t_trialCovers_coverers : Int64) (w48_k_t_trialCovers_reached : Int32) (H : Heap) (locs : List Loc) (ls : Array Slot), va_P G vwCl [(a_t, .inr (7, [.ref a_t_text, .ref a_t_edges, .ref a_t_trial, .ref a_t_acts, .ref a_t_slots, .ref a_t_seen, .ref a_t_covers, .ref a_t_trialCovers, .ref a_t_walk, .ref a_t_least, .ref a_t_told, .int k_t_keptSlots, .long k_t_theSeed])), (a_t_edges, .inr (2, [.ref a_t_edges_row, .int k_t_edges_knots, .int k_t_edges_nextStamp])), (a_t_edges_row, .inr (3, [.ref a_t_edges_row_items, .int k_t_edges_row_size])), (a_t_edges_row_items, .inl (cI, 24, .inl f_t_edges_row_items)), (a_t_seen, .inr (3, [.ref a_t_seen_items, .int k_t_seen_size])), (a_t_seen_items, .inl (cI, 6, .inl f_t_seen_items)), (a_t_trialCovers, .inr (1, [.long w48_k_t_trialCovers_grid, .long w48_k_t_trialCovers_covered, .long w48_k_t_trialCovers_coverers, .int w48_k_t_trialCovers_reached]))] H → va_D A [(a_t, .inr (7, [.ref a_t_text, .ref a_t_edges, .ref a_t_trial, .ref a_t_acts, .ref a_t_slots, .ref a_t_seen, .ref a_t_covers, .ref a_t_trialCovers, .ref a_t_walk, .ref a_t_least, .ref a_t_told, .int k_t_keptSlots, .long k_t_theSeed])), (a_t_edges, .inr (2, [.ref a_t_edges_row, .int k_t_edges_knots, .int k_t_edges_nextStamp])), (a_t_edges_row, .inr (3, [.ref a_t_edges_row_items, .int k_t_edges_row_size])), (a_t_edges_row_items, .inl (cI, 24, .inl f_t_edges_row_items)), (a_t_seen, .inr (3, [.ref a_t_seen_items, .int k_t_seen_size])), (a_t_seen_items, .inl (cI, 6, .inl f_t_seen_items)), (a_t_trialCovers, .inr (1, [.long w48_k_t_trialCovers_grid, .long w48_k_t_trialCovers_covered, .long w48_k_t_trialCovers_coverers, .int w48_k_t_trialCovers_reached]))] → va_S A s.heap H locs → lv_has ls 6 [(0, .ref a_t), (1, .int p1), (2, .int v48_2), (3, .int v48_3), (4, .int v33_4), (5, .int v48_5)] → mX10_missing_L48 (mX10_missing_L33 k_t_edges_knots k_t_edges_row_size f_t_edges_row_items k_t_seen_size f_t_seen_items p1 n33) k_t_edges_knots k_t_edges_row_size f_t_edges_row_items k_t_seen_size f_t_seen_items v33_4 n48 v48_2 v48_3 v48_5 w48_k_t_trialCovers_grid w48_k_t_trialCovers_covered w48_k_t_trialCovers_coverers w48_k_t_trialCovers_reached = some R → W p l e { frames := 5, cells := 0, slots := 0, locals := 116 } s m ([.ref a_t, .int p1] : List Value).toArray below meth c H locs 0 0 (kQ below G [(a_t, .inr (7, [.ref a_t_text, .ref a_t_edges, .ref a_t_trial, .ref a_t_acts, .ref a_t_slots, .ref a_t_seen, .ref a_t_covers, .ref a_t_trialCovers, .ref a_t_walk, .ref a_t_least, .ref a_t_told, .int k_t_keptSlots, .long k_t_theSeed])), (a_t_edges, .inr (2, [.ref a_t_edges_row, .int k_t_edges_knots, .int k_t_edges_nextStamp])), (a_t_edges_row, .inr (3, [.ref a_t_edges_row_items, .int k_t_edges_row_size])), (a_t_edges_row_items, .inl (cI, 24, .inl f_t_edges_row_items)), (a_t_seen, .inr (3, [.ref a_t_seen_items, .int k_t_seen_size])), (a_t_seen_items, .inl (cI, 6, .inl f_t_seen_items)), (a_t_trialCovers, .inr (1, [.long R.2.1, .long R.2.2.1, .long R.2.2.2.1, .int R.2.2.2.2]))] (some (.int R.1)) A ([.ref a_t, .int p1] : List Value).toArray s) (F0 m 48 ls []) := by
              intro n48
              induction n48 with
              | zero => intro v48_2 v48_3 v48_5 w48_k_t_trialCovers_grid w48_k_t_trialCovers_covered w48_k_t_trialCovers_coverers w48_k_t_trialCovers_reached H locs ls hP hD hS hl hm; rw [mX10_missing_L48] at hm; cases hm
              | succ n48 ih48 =>
                intro v48_2 v48_3 v48_5 w48_k_t_trialCovers_grid w48_k_t_trialCovers_covered w48_k_t_trialCovers_coverers w48_k_t_trialCovers_reached H locs ls hP hD hS hl hm
                rw [mX10_missing_L48] at hm
                refine lv_iload hx hb dX10_missing_48 (lv_at hl 5 rfl) ?_
                refine lv_aload_n hx hb dX10_missing_50 rfl (lv_at hl 0 rfl) ?_
                refine va_get (D := G) (ci := 7) (v := .ref a_t_edges) (C := RX10) (T := TX10) (N := 13) hx hb hts i_X10 hown hK hP 0 rfl rfl 1 (by decide) l_19 (fun _ h9 => h9) rfl dX10_missing_51 ?_
                refine va_getN (D := G) (ci := 2) (v := .int k_t_edges_knots) (C := RX3) (T := TX3) (N := 3) hx hb hts i_X3 hown hK hP 1 rfl rfl 1 (by decide) l_233 (fun _ h9 => h9) rfl dX10_missing_54 ?_
                refine lv_icmp_ge (tgt := 96) hx hb dX10_missing_57 (by decide) (fun c57 => ?_) (fun c57 => ?_)
                · rw [if_pos c57] at hm
                  refine lv_iinc (v := v33_4 + 1) (lv' := [(4, .int (v33_4 + 1)), (0, .ref a_t), (1, .int p1), (2, .int v48_2), (3, .int v48_3), (5, .int v48_5)]) hx hb dX10_missing_96 hl (k := 4) rfl rfl (by decide) rfl (fun ls hl => ?_)
                  refine lv_goto (tgt := 33) hx hb dX10_missing_99 (by decide) ?_
                  exact ih33 v48_2 v48_3 (v33_4 + 1) w48_k_t_trialCovers_grid w48_k_t_trialCovers_covered w48_k_t_trialCovers_coverers w48_k_t_trialCovers_reached _ _ _ hP hD hS (lv_sub hl [1, 2, 3, 4, 0] rfl) hm
                · rw [if_neg c57] at hm
                  refine lv_aload_n hx hb dX10_missing_60 rfl (lv_at hl 0 rfl) ?_
                  refine lv_iload hx hb dX10_missing_61 (lv_at hl 4 rfl) ?_
                  refine lv_iload hx hb dX10_missing_63 (lv_at hl 5 rfl) ?_
                  obtain ⟨r65, hc65, hm⟩ := kbind hm
                  refine kcV (ws1 := [(a_t, .inr (7, [.ref a_t_text, .ref a_t_edges, .ref a_t_trial, .ref a_t_acts, .ref a_t_slots, .ref a_t_seen, .ref a_t_covers, .ref a_t_trialCovers, .ref a_t_walk, .ref a_t_least, .ref a_t_told, .int k_t_keptSlots, .long k_t_theSeed])), (a_t_edges, .inr (2, [.ref a_t_edges_row, .int k_t_edges_knots, .int k_t_edges_nextStamp])), (a_t_edges_row, .inr (3, [.ref a_t_edges_row_items, .int k_t_edges_row_size])), (a_t_edges_row_items, .inl (cI, 24, .inl f_t_edges_row_items)), (a_t_seen, .inr (3, [.ref a_t_seen_items, .int k_t_seen_size])), (a_t_seen_items, .inl (cI, 6, .inl f_t_seen_items)), (a_t_trialCovers, .inr (1, [.long r65.2.1, .long r65.2.2.1, .long r65.2.2.2.1, .int r65.2.2.2.2]))]) (st1 := [.int (bI r65.1)]) X hA (c_X10_mayBeMissing l G cI cZ cE a_t a_t_text a_t_edges a_t_trial a_t_acts a_t_slots a_t_seen a_t_covers a_t_trialCovers a_t_walk a_t_least a_t_told a_t_edges_row a_t_edges_row_items a_t_seen_items k_t_keptSlots k_t_theSeed k_t_edges_knots k_t_edges_nextStamp k_t_edges_row_size f_t_edges_row_items k_t_seen_size f_t_seen_items w48_k_t_trialCovers_grid w48_k_t_trialCovers_covered w48_k_t_trialCovers_coverers w48_k_t_trialCovers_reached v33_4 v48_5 r65 hc65) (cwV 2 hts gX10_missing_X10_mayBeMissing rfl rfl rfl hd_X10_mayBeMissing ⟨Nat.le_of_ble_eq_true rfl, Nat.le_of_ble_eq_true rfl⟩) 0 7 rfl rfl hl.1 dX10_missing_65 hP hD hS [0, 1, 2, 3, 4, 5, 6] rfl rfl rfl rfl rfl [] rfl (Nat.le_of_ble_eq_true rfl) rfl ⟨Nat.zero_le _, Nat.zero_le _⟩ (fun H locs hP hD hS => ?_)
                  refine lv_if_eq (tgt := 90) hx hb dX10_missing_68 (by decide) (fun c68 => ?_) (fun c68 => ?_)
                  · have c68 := kb0 c68
                    rw [if_neg c68] at hm
                    refine lv_iinc (v := v48_5 + 1) (lv' := [(5, .int (v48_5 + 1)), (0, .ref a_t), (1, .int p1), (2, .int v48_2), (3, .int v48_3), (4, .int v33_4)]) hx hb dX10_missing_90 hl (k := 5) rfl rfl (by decide) rfl (fun ls hl => ?_)
                    refine lv_goto (tgt := 48) hx hb dX10_missing_93 (by decide) ?_
                    exact ih48 v48_2 v48_3 (v48_5 + 1) r65.2.1 r65.2.2.1 r65.2.2.2.1 r65.2.2.2.2 _ _ _ hP hD hS (lv_sub hl [1, 2, 3, 4, 5, 0] rfl) hm
                  · have c68 := kb1 c68
                    rw [if_pos c68] at hm
                    refine lv_iload_n hx hb dX10_missing_71 rfl (lv_at hl 2 rfl) ?_
                    refine lv_if_ne (tgt := 85) hx hb dX10_missing_72 (by decide) (fun c72 => ?_) (fun c72 => ?_)
                    · rw [if_neg c72] at hm
                      refine lv_iload_n hx hb dX10_missing_85 rfl (lv_at hl 3 rfl) ?_
                      refine lv_istore_n (lv' := [(3, .int v48_3), (0, .ref a_t), (1, .int p1), (2, .int v48_2), (4, .int v33_4), (5, .int v48_5)]) hx hb dX10_missing_86 rfl hl (by decide) rfl (fun ls hl => ?_)
                      refine lv_iinc (v := v48_2 + 1) (lv' := [(2, .int (v48_2 + 1)), (3, .int v48_3), (0, .ref a_t), (1, .int p1), (4, .int v33_4), (5, .int v48_5)]) hx hb dX10_missing_87 hl (k := 3) rfl rfl (by decide) rfl (fun ls hl => ?_)
                      refine lv_iinc (v := v48_5 + 1) (lv' := [(5, .int (v48_5 + 1)), (2, .int (v48_2 + 1)), (3, .int v48_3), (0, .ref a_t), (1, .int p1), (4, .int v33_4)]) hx hb dX10_missing_90 hl (k := 5) rfl rfl (by decide) rfl (fun ls hl => ?_)
                      refine lv_goto (tgt := 48) hx hb dX10_missing_93 (by decide) ?_
                      exact ih48 (v48_2 + 1) v48_3 (v48_5 + 1) r65.2.1 r65.2.2.1 r65.2.2.2.1 r65.2.2.2.2 _ _ _ hP hD hS (lv_sub hl [3, 4, 1, 2, 5, 0] rfl) hm
                    · rw [if_pos c72] at hm
                      refine lv_iload hx hb dX10_missing_75 (lv_at hl 4 rfl) ?_
                      refine lv_iload hx hb dX10_missing_77 (lv_at hl 5 rfl) ?_
                      refine kcS0 (st1 := [.int (mX3_pair v33_4 v48_5)]) X hA (c_X3_pair l G cI cZ cE v33_4 v48_5 _ rfl) (va_cwS 2 hts gX10_missing_X3_pair rfl rfl rfl hd_X3_pair ⟨Nat.le_of_ble_eq_true rfl, Nat.le_of_ble_eq_true rfl⟩) hl.1 dX10_missing_79 hP hD hS [] rfl rfl rfl [] rfl (Nat.le_of_ble_eq_true rfl) rfl ⟨Nat.zero_le _, Nat.zero_le _⟩ (fun H locs hP hD hS => ?_)
                      refine lv_goto (tgt := 86) hx hb dX10_missing_82 (by decide) ?_
                      refine lv_istore_n (lv' := [(3, .int (mX3_pair v33_4 v48_5)), (0, .ref a_t), (1, .int p1), (2, .int v48_2), (4, .int v33_4), (5, .int v48_5)]) hx hb dX10_missing_86 rfl hl (by decide) rfl (fun ls hl => ?_)
                      refine lv_iinc (v := v48_2 + 1) (lv' := [(2, .int (v48_2 + 1)), (3, .int (mX3_pair v33_4 v48_5)), (0, .ref a_t), (1, .int p1), (4, .int v33_4), (5, .int v48_5)]) hx hb dX10_missing_87 hl (k := 3) rfl rfl (by decide) rfl (fun ls hl => ?_)
                      refine lv_iinc (v := v48_5 + 1) (lv' := [(5, .int (v48_5 + 1)), (2, .int (v48_2 + 1)), (3, .int (mX3_pair v33_4 v48_5)), (0, .ref a_t), (1, .int p1), (4, .int v33_4)]) hx hb dX10_missing_90 hl (k := 5) rfl rfl (by decide) rfl (fun ls hl => ?_)
                      refine lv_goto (tgt := 48) hx hb dX10_missing_93 (by decide) ?_
                      exact ih48 (v48_2 + 1) (mX3_pair v33_4 v48_5) (v48_5 + 1) r65.2.1 r65.2.2.1 r65.2.2.2.1 r65.2.2.2.2 _ _ _ hP hD hS (lv_sub hl [3, 4, 1, 2, 5, 0] rfl) hm
            exact h48 kFU v33_2 v33_3 0 w33_k_t_trialCovers_grid w33_k_t_trialCovers_covered w33_k_t_trialCovers_coverers w33_k_t_trialCovers_reached _ _ _ hP hD hS (lv_sub hl [1, 2, 3, 4, 5, 0] rfl) hm
      exact h33 kFU 0 (-9) 0 k_t_trialCovers_grid k_t_trialCovers_covered k_t_trialCovers_coverers k_t_trialCovers_reached _ _ _ hP hD hS (lv_sub hl [3, 4, 2, 1, 0] rfl) hm
    · have c19 := kb1 c19
      rw [if_pos c19] at hm
      refine lv_bipush (v := (-4)) hx hb dX10_missing_22 (by decide) ?_
      have hm := Option.some.inj hm
      subst hm
      exact k_iret (v := (-4)) X rfl dX10_missing_24 hP hD hS
  refine lv_if_eq (tgt := 12) hx hb dX10_missing_1 (by decide) (fun c1 => ?_) (fun c1 => ?_)
  · rw [if_pos c1] at hm
    exact h12 _ _ _ hP hD hS (lv_sub hl [0, 1] rfl) hm
  · rw [if_neg c1] at hm
    refine lv_iload_n hx hb dX10_missing_4 rfl (lv_at hl 1 rfl) ?_
    refine lv_iconst (v := 1) hx hb dX10_missing_5 (by decide) ?_
    refine lv_icmp_eq (tgt := 12) hx hb dX10_missing_6 (by decide) (fun c6 => ?_) (fun c6 => ?_)
    · rw [if_pos c6] at hm
      exact h12 _ _ _ hP hD hS (lv_sub hl [0, 1] rfl) hm
    · rw [if_neg c6] at hm
      refine lv_bipush (v := (-2)) hx hb dX10_missing_9 (by decide) ?_
      have hm := Option.some.inj hm
      subst hm
      exact k_iret (v := (-2)) X rfl dX10_missing_11 hP hD hS
theorem hd_X10_missing : yX10_missing.cls = RX10 ∧ yX10_missing.cls ≠ "java/lang/invoke/MethodHandle" ∧ yX10_missing.cls ≠ "java/lang/invoke/VarHandle" ∧ (parseMethodDescriptor yX10_missing.desc).map (fun d => d.parameters.length) = some 1 := by decide +kernel
/-! CoverOrder share -/
set_option maxRecDepth 100000 in
set_option maxHeartbeats 4000000 in
theorem c_X10_share (l : Launch) (G : va_G) (cI cZ cE : ClassId) (a_t a_t_text a_t_edges a_t_trial a_t_acts a_t_slots a_t_seen a_t_covers a_t_trialCovers a_t_walk a_t_least a_t_told a_t_edges_row a_t_edges_row_items : Nat) (k_t_keptSlots : Int32) (k_t_theSeed : Int64) (k_t_edges_knots : Int32) (k_t_edges_nextStamp : Int32) (k_t_edges_row_size : Int32) (f_t_edges_row_items : Nat → Int32) (p1 : Int32) (p2 : Int32) (p3 : Bool) (R : Int32) (hm : mX10_share k_t_edges_knots k_t_edges_row_size f_t_edges_row_items p1 p2 p3 = some R) : kM l yX10_share wsX10_share { frames := 5, cells := 0, slots := 0, locals := 120 } G cI cZ cE [.ref a_t, .int p1, .int p2, .int (bI p3)] [(a_t, .inr (7, [.ref a_t_text, .ref a_t_edges, .ref a_t_trial, .ref a_t_acts, .ref a_t_slots, .ref a_t_seen, .ref a_t_covers, .ref a_t_trialCovers, .ref a_t_walk, .ref a_t_least, .ref a_t_told, .int k_t_keptSlots, .long k_t_theSeed])), (a_t_edges, .inr (2, [.ref a_t_edges_row, .int k_t_edges_knots, .int k_t_edges_nextStamp])), (a_t_edges_row, .inr (3, [.ref a_t_edges_row_items, .int k_t_edges_row_size])), (a_t_edges_row_items, .inl (cI, 24, .inl f_t_edges_row_items))] [(a_t, .inr (7, [.ref a_t_text, .ref a_t_edges, .ref a_t_trial, .ref a_t_acts, .ref a_t_slots, .ref a_t_seen, .ref a_t_covers, .ref a_t_trialCovers, .ref a_t_walk, .ref a_t_least, .ref a_t_told, .int k_t_keptSlots, .long k_t_theSeed])), (a_t_edges, .inr (2, [.ref a_t_edges_row, .int k_t_edges_knots, .int k_t_edges_nextStamp])), (a_t_edges_row, .inr (3, [.ref a_t_edges_row_items, .int k_t_edges_row_size])), (a_t_edges_row_items, .inl (cI, 24, .inl f_t_edges_row_items))] (some (.int R)) := by
  refine kM_of cX10_share 8 (some .int) RX10 (by decide) rfl rfl (Nat.le_of_ble_eq_true rfl) ?_
  intro p e s m below meth c A ls X hA hP hD hS hl
  have hx := X.1.1
  have hb := X.1.2.1
  have hts := X.1.2.2.2.2
  have hown := X.1.2.2.2.1
  have hK := X.2.2.2.1
  have l_19 : (.fieldLink RX10 19 "CoverOrder" "edges" "LCoverOrder$Edges;" : Cond).before _ s = true := hts _ (List.mem_of_getElem? (i := 1) (by decide +kernel))
  have i_X10 : ∀ w ∈ u_ws RX10 TX10 13, w ∈ wsX10_share := k_in _ [92, 93, 94, 95, 96, 97, 98, 99, 100, 101, 102, 103, 104] (by decide +kernel)
  have hl : lv_has ls 8 [(0, .ref a_t), (1, .int p1), (2, .int p2), (3, .int (bI p3))] := hl
  rw [mX10_share] at hm
  refine lv_aload_n hx hb dX10_share_0 rfl (lv_at hl 0 rfl) ?_
  refine va_get (D := G) (ci := 7) (v := .ref a_t_edges) (C := RX10) (T := TX10) (N := 13) hx hb hts i_X10 hown hK hP 0 rfl rfl 1 (by decide) l_19 (fun _ h9 => h9) rfl dX10_share_1 ?_
  refine lv_iload_n hx hb dX10_share_4 rfl (lv_at hl 1 rfl) ?_
  refine lv_iload_n hx hb dX10_share_5 rfl (lv_at hl 2 rfl) ?_
  refine kcV0 (st1 := [.int (bI (mX3_areKnots k_t_edges_knots p1 p2))]) X hA (c_X3_areKnots l G cI cZ cE a_t_edges a_t_edges_row k_t_edges_knots k_t_edges_nextStamp p1 p2 _ rfl) (cwV 2 hts gX10_share_X3_areKnots rfl rfl rfl hd_X3_areKnots ⟨Nat.le_of_ble_eq_true rfl, Nat.le_of_ble_eq_true rfl⟩) 1 2 rfl rfl hl.1 dX10_share_6 hP hD hS [1] rfl rfl rfl [] rfl (Nat.le_of_ble_eq_true rfl) rfl ⟨Nat.zero_le _, Nat.zero_le _⟩ (fun H locs hP hD hS => ?_)
  refine lv_if_ne (tgt := 14) hx hb dX10_share_9 (by decide) (fun c9 => ?_) (fun c9 => ?_)
  · have c9 := kb1 c9
    rw [if_pos c9] at hm
    refine lv_aload_n hx hb dX10_share_14 rfl (lv_at hl 0 rfl) ?_
    refine va_get (D := G) (ci := 7) (v := .ref a_t_edges) (C := RX10) (T := TX10) (N := 13) hx hb hts i_X10 hown hK hP 0 rfl rfl 1 (by decide) l_19 (fun _ h9 => h9) rfl dX10_share_15 ?_
    refine lv_iload_n hx hb dX10_share_18 rfl (lv_at hl 1 rfl) ?_
    refine lv_iload_n hx hb dX10_share_19 rfl (lv_at hl 2 rfl) ?_
    obtain ⟨r20, hc20, hm⟩ := kbind hm
    refine kcV0 (st1 := [.int (bI r20)]) X hA (c_X3_has l G cI cZ cE a_t_edges a_t_edges_row a_t_edges_row_items k_t_edges_knots k_t_edges_nextStamp k_t_edges_row_size f_t_edges_row_items p1 p2 r20 hc20) (cwV 2 hts gX10_share_X3_has rfl rfl rfl hd_X3_has ⟨Nat.le_of_ble_eq_true rfl, Nat.le_of_ble_eq_true rfl⟩) 1 2 rfl rfl hl.1 dX10_share_20 hP hD hS [1, 2, 3] rfl rfl rfl [] rfl (Nat.le_of_ble_eq_true rfl) rfl ⟨Nat.zero_le _, Nat.zero_le _⟩ (fun H locs hP hD hS => ?_)
    refine lv_if_ne (tgt := 29) hx hb dX10_share_23 (by decide) (fun c23 => ?_) (fun c23 => ?_)
    · have c23 := kb1 c23
      rw [if_pos c23] at hm
      refine lv_aload_n hx hb dX10_share_29 rfl (lv_at hl 0 rfl) ?_
      refine va_get (D := G) (ci := 7) (v := .ref a_t_edges) (C := RX10) (T := TX10) (N := 13) hx hb hts i_X10 hown hK hP 0 rfl rfl 1 (by decide) l_19 (fun _ h9 => h9) rfl dX10_share_30 ?_
      obtain ⟨r33, hc33, hm⟩ := kbind hm
      refine kcV0 (st1 := [.long r33]) X hA (c_X3_grid l G cI cZ cE a_t_edges a_t_edges_row a_t_edges_row_items k_t_edges_knots k_t_edges_nextStamp k_t_edges_row_size f_t_edges_row_items r33 hc33) (cwV 0 hts gX10_share_X3_grid rfl rfl rfl hd_X3_grid ⟨Nat.le_of_ble_eq_true rfl, Nat.le_of_ble_eq_true rfl⟩) 1 2 rfl rfl hl.1 dX10_share_33 hP hD hS [1, 2, 3] rfl rfl rfl [] rfl (Nat.le_of_ble_eq_true rfl) rfl ⟨Nat.zero_le _, Nat.zero_le _⟩ (fun H locs hP hD hS => ?_)
      refine lv_lstore (lv' := [(4, .long r33), (0, .ref a_t), (1, .int p1), (2, .int p2), (3, .int (bI p3))]) hx hb dX10_share_36 hl (by decide) rfl (fun ls hl => ?_)
      refine lv_lload hx hb dX10_share_38 (lv_at hl 0 rfl) ?_
      refine lv_iload_n hx hb dX10_share_40 rfl (lv_at hl 2 rfl) ?_
      refine lv_iload_n hx hb dX10_share_41 rfl (lv_at hl 3 rfl) ?_
      obtain ⟨r42, hc42, hm⟩ := kbind hm
      refine kcS0 (st1 := [.int r42]) X hA (c_X1_gainInAllOrders l G cI cZ cE r33 p1 p2 r42 hc42) (va_cwS 3 hts gX10_share_X1_gainInAllOrders rfl rfl rfl hd_X1_gainInAllOrders ⟨Nat.le_of_ble_eq_true rfl, Nat.le_of_ble_eq_true rfl⟩) hl.1 dX10_share_42 hP hD hS [] rfl rfl rfl [] rfl (Nat.le_of_ble_eq_true rfl) rfl ⟨Nat.zero_le _, Nat.zero_le _⟩ (fun H locs hP hD hS => ?_)
      refine lv_istore (lv' := [(6, .int r42), (4, .long r33), (0, .ref a_t), (1, .int p1), (2, .int p2), (3, .int (bI p3))]) hx hb dX10_share_45 hl (by decide) rfl (fun ls hl => ?_)
      refine lv_lload hx hb dX10_share_47 (lv_at hl 1 rfl) ?_
      refine lv_iload_n hx hb dX10_share_49 rfl (lv_at hl 3 rfl) ?_
      refine kcS0 (st1 := [.int (mX5_line r33 p1)]) X hA (c_X5_line l G cI cZ cE r33 p1 _ rfl) (va_cwS 2 hts gX10_share_X5_line rfl rfl rfl hd_X5_line ⟨Nat.le_of_ble_eq_true rfl, Nat.le_of_ble_eq_true rfl⟩) hl.1 dX10_share_50 hP hD hS [] rfl rfl rfl [] rfl (Nat.le_of_ble_eq_true rfl) rfl ⟨Nat.zero_le _, Nat.zero_le _⟩ (fun H locs hP hD hS => ?_)
      refine kcS0 (st1 := [.int (mJ6_bitCount_0f7a4 (mX5_line r33 p1))]) X hA (c_J6_bitCount_0f7a4 l G cI cZ cE (mX5_line r33 p1) _ rfl) (va_cwS 1 hts gX10_share_J6_bitCount_0f7a4 rfl rfl rfl hd_J6_bitCount_0f7a4 ⟨Nat.le_of_ble_eq_true rfl, Nat.le_of_ble_eq_true rfl⟩) hl.1 dX10_share_53 hP hD hS [] rfl rfl rfl [] rfl (Nat.le_of_ble_eq_true rfl) rfl ⟨Nat.zero_le _, Nat.zero_le _⟩ (fun H locs hP hD hS => ?_)
      obtain ⟨r56, hc56, hm⟩ := kbind hm
      refine kcS0 (st1 := [.int r56]) X hA (c_X1_factorial l G cI cZ cE (mJ6_bitCount_0f7a4 (mX5_line r33 p1)) r56 hc56) (va_cwS 1 hts gX10_share_X1_factorial rfl rfl rfl hd_X1_factorial ⟨Nat.le_of_ble_eq_true rfl, Nat.le_of_ble_eq_true rfl⟩) hl.1 dX10_share_56 hP hD hS [] rfl rfl rfl [] rfl (Nat.le_of_ble_eq_true rfl) rfl ⟨Nat.zero_le _, Nat.zero_le _⟩ (fun H locs hP hD hS => ?_)
      refine lv_istore (lv' := [(7, .int r56), (6, .int r42), (4, .long r33), (0, .ref a_t), (1, .int p1), (2, .int p2), (3, .int (bI p3))]) hx hb dX10_share_59 hl (by decide) rfl (fun ls hl => ?_)
      refine lv_iload hx hb dX10_share_61 (lv_at hl 1 rfl) ?_
      refine lv_iload hx hb dX10_share_63 (lv_at hl 0 rfl) ?_
      refine lv_iload_n hx hb dX10_share_65 rfl (lv_at hl 6 rfl) ?_
      obtain ⟨r66, hc66, hm⟩ := kbind hm
      refine kcS0 (st1 := [.int r66]) X hA (c_X1_inLeastTerms l G cI cZ cE r42 r56 p3 r66 hc66) (va_cwS 3 hts gX10_share_X1_inLeastTerms rfl rfl rfl hd_X1_inLeastTerms ⟨Nat.le_of_ble_eq_true rfl, Nat.le_of_ble_eq_true rfl⟩) hl.1 dX10_share_66 hP hD hS [] rfl rfl rfl [] rfl (Nat.le_of_ble_eq_true rfl) rfl ⟨Nat.zero_le _, Nat.zero_le _⟩ (fun H locs hP hD hS => ?_)
      have hm := Option.some.inj hm
      subst hm
      exact k_iret (v := r66) X rfl dX10_share_69 hP hD hS
    · have c23 := kb0 c23
      rw [if_neg c23] at hm
      refine lv_bipush (v := (-3)) hx hb dX10_share_26 (by decide) ?_
      have hm := Option.some.inj hm
      subst hm
      exact k_iret (v := (-3)) X rfl dX10_share_28 hP hD hS
  · have c9 := kb0 c9
    rw [if_neg c9] at hm
    refine lv_iconst (v := (-1)) hx hb dX10_share_12 (by decide) ?_
    have hm := Option.some.inj hm
    subst hm
    exact k_iret (v := (-1)) X rfl dX10_share_13 hP hD hS
theorem hd_X10_share : yX10_share.cls = RX10 ∧ yX10_share.cls ≠ "java/lang/invoke/MethodHandle" ∧ yX10_share.cls ≠ "java/lang/invoke/VarHandle" ∧ (parseMethodDescriptor yX10_share.desc).map (fun d => d.parameters.length) = some 3 := by decide +kernel
/-! CoverOrder spared -/
set_option maxRecDepth 100000 in
set_option maxHeartbeats 4000000 in
theorem c_X10_spared (l : Launch) (G : va_G) (cI cZ cE : ClassId) (a_t a_t_text a_t_edges a_t_trial a_t_acts a_t_slots a_t_seen a_t_covers a_t_trialCovers a_t_walk a_t_least a_t_told a_t_edges_row a_t_edges_row_items : Nat) (k_t_keptSlots : Int32) (k_t_theSeed : Int64) (k_t_edges_knots : Int32) (k_t_edges_nextStamp : Int32) (k_t_edges_row_size : Int32) (f_t_edges_row_items : Nat → Int32) (p1 : Int32) (p2 : Int32) (p3 : Int32) (p4 : Bool) (R : Int32) (hm : mX10_spared k_t_edges_knots k_t_edges_row_size f_t_edges_row_items p1 p2 p3 p4 = some R) : kM l yX10_spared wsX10_spared { frames := 5, cells := 0, slots := 0, locals := 117 } G cI cZ cE [.ref a_t, .int p1, .int p2, .int p3, .int (bI p4)] [(a_t, .inr (7, [.ref a_t_text, .ref a_t_edges, .ref a_t_trial, .ref a_t_acts, .ref a_t_slots, .ref a_t_seen, .ref a_t_covers, .ref a_t_trialCovers, .ref a_t_walk, .ref a_t_least, .ref a_t_told, .int k_t_keptSlots, .long k_t_theSeed])), (a_t_edges, .inr (2, [.ref a_t_edges_row, .int k_t_edges_knots, .int k_t_edges_nextStamp])), (a_t_edges_row, .inr (3, [.ref a_t_edges_row_items, .int k_t_edges_row_size])), (a_t_edges_row_items, .inl (cI, 24, .inl f_t_edges_row_items))] [(a_t, .inr (7, [.ref a_t_text, .ref a_t_edges, .ref a_t_trial, .ref a_t_acts, .ref a_t_slots, .ref a_t_seen, .ref a_t_covers, .ref a_t_trialCovers, .ref a_t_walk, .ref a_t_least, .ref a_t_told, .int k_t_keptSlots, .long k_t_theSeed])), (a_t_edges, .inr (2, [.ref a_t_edges_row, .int k_t_edges_knots, .int k_t_edges_nextStamp])), (a_t_edges_row, .inr (3, [.ref a_t_edges_row_items, .int k_t_edges_row_size])), (a_t_edges_row_items, .inl (cI, 24, .inl f_t_edges_row_items))] (some (.int R)) := by
  refine kM_of cX10_spared 9 (some .int) RX10 (by decide) rfl rfl (Nat.le_of_ble_eq_true rfl) ?_
  intro p e s m below meth c A ls X hA hP hD hS hl
  have hx := X.1.1
  have hb := X.1.2.1
  have hts := X.1.2.2.2.2
  have hown := X.1.2.2.2.1
  have hK := X.2.2.2.1
  have l_19 : (.fieldLink RX10 19 "CoverOrder" "edges" "LCoverOrder$Edges;" : Cond).before _ s = true := hts _ (List.mem_of_getElem? (i := 1) (by decide +kernel))
  have i_X10 : ∀ w ∈ u_ws RX10 TX10 13, w ∈ wsX10_spared := k_in _ [76, 77, 78, 79, 80, 81, 82, 83, 84, 85, 86, 87, 88] (by decide +kernel)
  have hl : lv_has ls 9 [(0, .ref a_t), (1, .int p1), (2, .int p2), (3, .int p3), (4, .int (bI p4))] := hl
  rw [mX10_spared] at hm
  refine lv_aload_n hx hb dX10_spared_0 rfl (lv_at hl 0 rfl) ?_
  refine va_get (D := G) (ci := 7) (v := .ref a_t_edges) (C := RX10) (T := TX10) (N := 13) hx hb hts i_X10 hown hK hP 0 rfl rfl 1 (by decide) l_19 (fun _ h9 => h9) rfl dX10_spared_1 ?_
  refine lv_iload_n hx hb dX10_spared_4 rfl (lv_at hl 1 rfl) ?_
  refine kcV0 (st1 := [.int (bI (mX3_isKnot k_t_edges_knots p1))]) X hA (c_X3_isKnot l G cI cZ cE a_t_edges a_t_edges_row k_t_edges_knots k_t_edges_nextStamp p1 _ rfl) (cwV 1 hts gX10_spared_X3_isKnot rfl rfl rfl hd_X3_isKnot ⟨Nat.le_of_ble_eq_true rfl, Nat.le_of_ble_eq_true rfl⟩) 1 2 rfl rfl hl.1 dX10_spared_5 hP hD hS [1] rfl rfl rfl [] rfl (Nat.le_of_ble_eq_true rfl) rfl ⟨Nat.zero_le _, Nat.zero_le _⟩ (fun H locs hP hD hS => ?_)
  refine lv_if_ne (tgt := 13) hx hb dX10_spared_8 (by decide) (fun c8 => ?_) (fun c8 => ?_)
  · have c8 := kb1 c8
    rw [if_pos c8] at hm
    refine lv_iload_n hx hb dX10_spared_13 rfl (lv_at hl 2 rfl) ?_
    refine lv_if_lt (tgt := 33) hx hb dX10_spared_14 (by decide) (fun c14 => ?_) (fun c14 => ?_)
    · rw [if_pos c14] at hm
      refine lv_bipush (v := (-2)) hx hb dX10_spared_33 (by decide) ?_
      have hm := Option.some.inj hm
      subst hm
      exact k_iret (v := (-2)) X rfl dX10_spared_35 hP hD hS
    · rw [if_neg c14] at hm
      refine lv_iload_n hx hb dX10_spared_17 rfl (lv_at hl 2 rfl) ?_
      refine lv_bipush (v := 8) hx hb dX10_spared_18 (by decide) ?_
      refine lv_icmp_gt (tgt := 33) hx hb dX10_spared_20 (by decide) (fun c20 => ?_) (fun c20 => ?_)
      · rw [if_pos c20] at hm
        refine lv_bipush (v := (-2)) hx hb dX10_spared_33 (by decide) ?_
        have hm := Option.some.inj hm
        subst hm
        exact k_iret (v := (-2)) X rfl dX10_spared_35 hP hD hS
      · rw [if_neg c20] at hm
        refine lv_iload_n hx hb dX10_spared_23 rfl (lv_at hl 3 rfl) ?_
        refine lv_if_lt (tgt := 33) hx hb dX10_spared_24 (by decide) (fun c24 => ?_) (fun c24 => ?_)
        · rw [if_pos c24] at hm
          refine lv_bipush (v := (-2)) hx hb dX10_spared_33 (by decide) ?_
          have hm := Option.some.inj hm
          subst hm
          exact k_iret (v := (-2)) X rfl dX10_spared_35 hP hD hS
        · rw [if_neg c24] at hm
          refine lv_iload_n hx hb dX10_spared_27 rfl (lv_at hl 3 rfl) ?_
          refine lv_bipush (v := 10) hx hb dX10_spared_28 (by decide) ?_
          refine lv_icmp_le (tgt := 36) hx hb dX10_spared_30 (by decide) (fun c30 => ?_) (fun c30 => ?_)
          · rw [if_pos c30] at hm
            refine lv_aload_n hx hb dX10_spared_36 rfl (lv_at hl 0 rfl) ?_
            refine va_get (D := G) (ci := 7) (v := .ref a_t_edges) (C := RX10) (T := TX10) (N := 13) hx hb hts i_X10 hown hK hP 0 rfl rfl 1 (by decide) l_19 (fun _ h9 => h9) rfl dX10_spared_37 ?_
            obtain ⟨r40, hc40, hm⟩ := kbind hm
            refine kcV0 (st1 := [.long r40]) X hA (c_X3_grid l G cI cZ cE a_t_edges a_t_edges_row a_t_edges_row_items k_t_edges_knots k_t_edges_nextStamp k_t_edges_row_size f_t_edges_row_items r40 hc40) (cwV 0 hts gX10_spared_X3_grid rfl rfl rfl hd_X3_grid ⟨Nat.le_of_ble_eq_true rfl, Nat.le_of_ble_eq_true rfl⟩) 1 2 rfl rfl hl.1 dX10_spared_40 hP hD hS [1, 2, 3] rfl rfl rfl [] rfl (Nat.le_of_ble_eq_true rfl) rfl ⟨Nat.zero_le _, Nat.zero_le _⟩ (fun H locs hP hD hS => ?_)
            refine lv_lstore (lv' := [(5, .long r40), (0, .ref a_t), (1, .int p1), (2, .int p2), (3, .int p3), (4, .int (bI p4))]) hx hb dX10_spared_43 hl (by decide) rfl (fun ls hl => ?_)
            refine lv_lload hx hb dX10_spared_45 (lv_at hl 0 rfl) ?_
            refine lv_iload_n hx hb dX10_spared_47 rfl (lv_at hl 2 rfl) ?_
            refine lv_iload_n hx hb dX10_spared_48 rfl (lv_at hl 3 rfl) ?_
            refine lv_iload_n hx hb dX10_spared_49 rfl (lv_at hl 4 rfl) ?_
            obtain ⟨r50, hc50, hm⟩ := kbind hm
            refine kcS0 (st1 := [.int r50]) X hA (c_X1_weightOfReaching l G cI cZ cE r40 p1 p2 p3 r50 hc50) (va_cwS 4 hts gX10_spared_X1_weightOfReaching rfl rfl rfl hd_X1_weightOfReaching ⟨Nat.le_of_ble_eq_true rfl, Nat.le_of_ble_eq_true rfl⟩) hl.1 dX10_spared_50 hP hD hS [] rfl rfl rfl [] rfl (Nat.le_of_ble_eq_true rfl) rfl ⟨Nat.zero_le _, Nat.zero_le _⟩ (fun H locs hP hD hS => ?_)
            refine lv_istore (lv' := [(7, .int r50), (5, .long r40), (0, .ref a_t), (1, .int p1), (2, .int p2), (3, .int p3), (4, .int (bI p4))]) hx hb dX10_spared_53 hl (by decide) rfl (fun ls hl => ?_)
            refine lv_bipush (v := 10) hx hb dX10_spared_55 (by decide) ?_
            refine lv_lload hx hb dX10_spared_57 (lv_at hl 1 rfl) ?_
            refine lv_iload_n hx hb dX10_spared_59 rfl (lv_at hl 3 rfl) ?_
            refine kcS0 (st1 := [.int (mX5_line r40 p1), .int 10]) X hA (c_X5_line l G cI cZ cE r40 p1 _ rfl) (va_cwS 2 hts gX10_spared_X5_line rfl rfl rfl hd_X5_line ⟨Nat.le_of_ble_eq_true rfl, Nat.le_of_ble_eq_true rfl⟩) hl.1 dX10_spared_60 hP hD hS [] rfl rfl rfl [.int 10] rfl (Nat.le_of_ble_eq_true rfl) rfl ⟨Nat.zero_le _, Nat.zero_le _⟩ (fun H locs hP hD hS => ?_)
            refine kcS0 (st1 := [.int (mJ6_bitCount_0f7a4 (mX5_line r40 p1)), .int 10]) X hA (c_J6_bitCount_0f7a4 l G cI cZ cE (mX5_line r40 p1) _ rfl) (va_cwS 1 hts gX10_spared_J6_bitCount_0f7a4 rfl rfl rfl hd_J6_bitCount_0f7a4 ⟨Nat.le_of_ble_eq_true rfl, Nat.le_of_ble_eq_true rfl⟩) hl.1 dX10_spared_63 hP hD hS [] rfl rfl rfl [.int 10] rfl (Nat.le_of_ble_eq_true rfl) rfl ⟨Nat.zero_le _, Nat.zero_le _⟩ (fun H locs hP hD hS => ?_)
            obtain ⟨r66, hc66, hm⟩ := kbind hm
            refine kcS0 (st1 := [.int r66]) X hA (c_X1_power l G cI cZ cE 10 (mJ6_bitCount_0f7a4 (mX5_line r40 p1)) r66 hc66) (va_cwS 2 hts gX10_spared_X1_power rfl rfl rfl hd_X1_power ⟨Nat.le_of_ble_eq_true rfl, Nat.le_of_ble_eq_true rfl⟩) hl.1 dX10_spared_66 hP hD hS [] rfl rfl rfl [] rfl (Nat.le_of_ble_eq_true rfl) rfl ⟨Nat.zero_le _, Nat.zero_le _⟩ (fun H locs hP hD hS => ?_)
            refine lv_istore (lv' := [(8, .int r66), (7, .int r50), (5, .long r40), (0, .ref a_t), (1, .int p1), (2, .int p2), (3, .int p3), (4, .int (bI p4))]) hx hb dX10_spared_69 hl (by decide) rfl (fun ls hl => ?_)
            refine lv_iload hx hb dX10_spared_71 (lv_at hl 1 rfl) ?_
            refine lv_iload hx hb dX10_spared_73 (lv_at hl 0 rfl) ?_
            refine lv_iload hx hb dX10_spared_75 (lv_at hl 7 rfl) ?_
            obtain ⟨r77, hc77, hm⟩ := kbind hm
            refine kcS0 (st1 := [.int r77]) X hA (c_X1_inLeastTerms l G cI cZ cE r50 r66 p4 r77 hc77) (va_cwS 3 hts gX10_spared_X1_inLeastTerms rfl rfl rfl hd_X1_inLeastTerms ⟨Nat.le_of_ble_eq_true rfl, Nat.le_of_ble_eq_true rfl⟩) hl.1 dX10_spared_77 hP hD hS [] rfl rfl rfl [] rfl (Nat.le_of_ble_eq_true rfl) rfl ⟨Nat.zero_le _, Nat.zero_le _⟩ (fun H locs hP hD hS => ?_)
            have hm := Option.some.inj hm
            subst hm
            exact k_iret (v := r77) X rfl dX10_spared_80 hP hD hS
          · rw [if_neg c30] at hm
            refine lv_bipush (v := (-2)) hx hb dX10_spared_33 (by decide) ?_
            have hm := Option.some.inj hm
            subst hm
            exact k_iret (v := (-2)) X rfl dX10_spared_35 hP hD hS
  · have c8 := kb0 c8
    rw [if_neg c8] at hm
    refine lv_iconst (v := (-1)) hx hb dX10_spared_11 (by decide) ?_
    have hm := Option.some.inj hm
    subst hm
    exact k_iret (v := (-1)) X rfl dX10_spared_12 hP hD hS
theorem hd_X10_spared : yX10_spared.cls = RX10 ∧ yX10_spared.cls ≠ "java/lang/invoke/MethodHandle" ∧ yX10_spared.cls ≠ "java/lang/invoke/VarHandle" ∧ (parseMethodDescriptor yX10_spared.desc).map (fun d => d.parameters.length) = some 4 := by decide +kernel
/-! CoverOrder seed -/
set_option maxRecDepth 100000 in
set_option maxHeartbeats 4000000 in
theorem c_X10_seed (l : Launch) (G : va_G) (cI cZ cE : ClassId) (a_t a_t_text a_t_edges a_t_trial a_t_acts a_t_slots a_t_seen a_t_covers a_t_trialCovers a_t_walk a_t_least a_t_told : Nat) (k_t_keptSlots : Int32) (k_t_theSeed : Int64) (p1 : Int64) (R : Int64 × Int64) (hm : mX10_seed k_t_theSeed p1 = R) : kM l yX10_seed wsX10_seed { frames := 0, cells := 0, slots := 0, locals := 0 } G cI cZ cE [.ref a_t, .long p1] [(a_t, .inr (7, [.ref a_t_text, .ref a_t_edges, .ref a_t_trial, .ref a_t_acts, .ref a_t_slots, .ref a_t_seen, .ref a_t_covers, .ref a_t_trialCovers, .ref a_t_walk, .ref a_t_least, .ref a_t_told, .int k_t_keptSlots, .long k_t_theSeed]))] [(a_t, .inr (7, [.ref a_t_text, .ref a_t_edges, .ref a_t_trial, .ref a_t_acts, .ref a_t_slots, .ref a_t_seen, .ref a_t_covers, .ref a_t_trialCovers, .ref a_t_walk, .ref a_t_least, .ref a_t_told, .int k_t_keptSlots, .long R.2]))] (some (.long R.1)) := by
  refine kM_of cX10_seed 5 (some .long) RX10 (by decide) rfl rfl (Nat.le_of_ble_eq_true rfl) ?_
  intro p e s m below meth c A ls X hA hP hD hS hl
  have hx := X.1.1
  have hb := X.1.2.1
  have hts := X.1.2.2.2.2
  have hown := X.1.2.2.2.1
  have hK := X.2.2.2.1
  have l_270 : (.fieldLink RX10 270 "CoverOrder" "theSeed" "J" : Cond).before _ s = true := hts _ (List.mem_of_getElem? (i := 1) (by decide +kernel))
  have i_X10 : ∀ w ∈ u_ws RX10 TX10 13, w ∈ wsX10_seed := k_in _ [2, 3, 4, 5, 6, 7, 8, 9, 10, 11, 12, 13, 14] (by decide +kernel)
  have hl : lv_has ls 5 [(0, .ref a_t), (1, .long p1)] := hl
  rw [mX10_seed] at hm
  refine lv_aload_n hx hb dX10_seed_0 rfl (lv_at hl 0 rfl) ?_
  refine va_get (D := G) (ci := 7) (v := .long k_t_theSeed) (C := RX10) (T := TX10) (N := 13) hx hb hts i_X10 hown hK hP 0 rfl rfl 12 (by decide) l_270 (fun _ h9 => h9) rfl dX10_seed_1 ?_
  refine lv_lstore_n (lv' := [(3, .long k_t_theSeed), (0, .ref a_t), (1, .long p1)]) hx hb dX10_seed_4 rfl hl (by decide) rfl (fun ls hl => ?_)
  refine lv_aload_n hx hb dX10_seed_5 rfl (lv_at hl 1 rfl) ?_
  refine lv_lload_n hx hb dX10_seed_6 rfl (lv_at hl 2 rfl) ?_
  refine va_put (D := G) (ci := 7) (v := .long p1) (ty := .long) (C := RX10) (T := TX10) (N := 13) hx hb hts i_X10 tyX10 tyX10_ok nmX10 hown hK hP hD hS 0 rfl rfl 12 (by decide) l_270 (fun _ h9 => h9) rfl (by decide +kernel) rfl rfl (Nat.le_of_ble_eq_true rfl) dX10_seed_7 (fun H locs hP hD hS => ?_)
  have hP : va_P G vwCl [(a_t, .inr (7, [.ref a_t_text, .ref a_t_edges, .ref a_t_trial, .ref a_t_acts, .ref a_t_slots, .ref a_t_seen, .ref a_t_covers, .ref a_t_trialCovers, .ref a_t_walk, .ref a_t_least, .ref a_t_told, .int k_t_keptSlots, .long p1]))] H := hP
  have hD : va_D A [(a_t, .inr (7, [.ref a_t_text, .ref a_t_edges, .ref a_t_trial, .ref a_t_acts, .ref a_t_slots, .ref a_t_seen, .ref a_t_covers, .ref a_t_trialCovers, .ref a_t_walk, .ref a_t_least, .ref a_t_told, .int k_t_keptSlots, .long p1]))] := hD
  refine lv_lload_n hx hb dX10_seed_10 rfl (lv_at hl 0 rfl) ?_
  subst hm
  exact k_lret X rfl dX10_seed_11 hP hD hS
theorem hd_X10_seed : yX10_seed.cls = RX10 ∧ yX10_seed.cls ≠ "java/lang/invoke/MethodHandle" ∧ yX10_seed.cls ≠ "java/lang/invoke/VarHandle" ∧ (parseMethodDescriptor yX10_seed.desc).map (fun d => d.parameters.length) = some 1 := by decide +kernel
/-! CoverOrder drawn -/
set_option maxRecDepth 100000 in
set_option maxHeartbeats 4000000 in
theorem c_X10_drawn (l : Launch) (G : va_G) (cI cZ cE : ClassId) (a_t a_t_text a_t_edges a_t_trial a_t_acts a_t_slots a_t_seen a_t_covers a_t_trialCovers a_t_walk a_t_least a_t_told a_t_edges_row a_t_edges_row_items a_t_trial_row a_t_trial_row_items : Nat) (k_t_keptSlots : Int32) (k_t_theSeed : Int64) (k_t_edges_knots : Int32) (k_t_edges_nextStamp : Int32) (k_t_edges_row_size : Int32) (f_t_edges_row_items : Nat → Int32) (k_t_trial_knots : Int32) (k_t_trial_nextStamp : Int32) (k_t_trial_row_size : Int32) (f_t_trial_row_items : Nat → Int32) (k_t_trialCovers_grid : Int64) (k_t_trialCovers_covered : Int64) (k_t_trialCovers_coverers : Int64) (k_t_trialCovers_reached : Int32) (p1 : Int32) (R : Int32 × Int64 × Int32 × Int32 × Int32 × (Nat → Int32) × Int64 × Int64 × Int64 × Int32) (hm : mX10_drawn k_t_theSeed k_t_edges_knots k_t_edges_nextStamp k_t_edges_row_size f_t_edges_row_items k_t_trial_knots k_t_trial_nextStamp k_t_trial_row_size f_t_trial_row_items k_t_trialCovers_grid k_t_trialCovers_covered k_t_trialCovers_coverers k_t_trialCovers_reached p1 = some R) : kM l yX10_drawn wsX10_drawn { frames := 6, cells := 0, slots := 0, locals := 133 } G cI cZ cE [.ref a_t, .int p1] [(a_t, .inr (7, [.ref a_t_text, .ref a_t_edges, .ref a_t_trial, .ref a_t_acts, .ref a_t_slots, .ref a_t_seen, .ref a_t_covers, .ref a_t_trialCovers, .ref a_t_walk, .ref a_t_least, .ref a_t_told, .int k_t_keptSlots, .long k_t_theSeed])), (a_t_edges, .inr (2, [.ref a_t_edges_row, .int k_t_edges_knots, .int k_t_edges_nextStamp])), (a_t_edges_row, .inr (3, [.ref a_t_edges_row_items, .int k_t_edges_row_size])), (a_t_edges_row_items, .inl (cI, 24, .inl f_t_edges_row_items)), (a_t_trial, .inr (2, [.ref a_t_trial_row, .int k_t_trial_knots, .int k_t_trial_nextStamp])), (a_t_trial_row, .inr (3, [.ref a_t_trial_row_items, .int k_t_trial_row_size])), (a_t_trial_row_items, .inl (cI, 24, .inl f_t_trial_row_items)), (a_t_trialCovers, .inr (1, [.long k_t_trialCovers_grid, .long k_t_trialCovers_covered, .long k_t_trialCovers_coverers, .int k_t_trialCovers_reached]))] [(a_t, .inr (7, [.ref a_t_text, .ref a_t_edges, .ref a_t_trial, .ref a_t_acts, .ref a_t_slots, .ref a_t_seen, .ref a_t_covers, .ref a_t_trialCovers, .ref a_t_walk, .ref a_t_least, .ref a_t_told, .int k_t_keptSlots, .long R.2.1])), (a_t_edges, .inr (2, [.ref a_t_edges_row, .int k_t_edges_knots, .int k_t_edges_nextStamp])), (a_t_edges_row, .inr (3, [.ref a_t_edges_row_items, .int k_t_edges_row_size])), (a_t_edges_row_items, .inl (cI, 24, .inl f_t_edges_row_items)), (a_t_trial, .inr (2, [.ref a_t_trial_row, .int R.2.2.1, .int R.2.2.2.1])), (a_t_trial_row, .inr (3, [.ref a_t_trial_row_items, .int R.2.2.2.2.1])), (a_t_trial_row_items, .inl (cI, 24, .inl R.2.2.2.2.2.1)), (a_t_trialCovers, .inr (1, [.long R.2.2.2.2.2.2.1, .long R.2.2.2.2.2.2.2.1, .long R.2.2.2.2.2.2.2.2.1, .int R.2.2.2.2.2.2.2.2.2]))] (some (.int R.1)) := by
  refine kM_of cX10_drawn 4 (some .int) RX10 (by decide) rfl rfl (Nat.le_of_ble_eq_true rfl) ?_
  intro p e s m below meth c A ls X hA hP hD hS hl
  have hx := X.1.1
  have hb := X.1.2.1
  have hts := X.1.2.2.2.2
  have hown := X.1.2.2.2.1
  have hK := X.2.2.2.1
  have l_23 : (.fieldLink RX10 23 "CoverOrder" "trial" "LCoverOrder$Edges;" : Cond).before _ s = true := hts _ (List.mem_of_getElem? (i := 1) (by decide +kernel))
  have i_X10 : ∀ w ∈ u_ws RX10 TX10 13, w ∈ wsX10_drawn := k_in _ [166, 167, 168, 169, 170, 171, 172, 173, 174, 175, 176, 177, 178] (by decide +kernel)
  have l_19 : (.fieldLink RX10 19 "CoverOrder" "edges" "LCoverOrder$Edges;" : Cond).before _ s = true := hts _ (List.mem_of_getElem? (i := 2) (by decide +kernel))
  have l_270 : (.fieldLink RX10 270 "CoverOrder" "theSeed" "J" : Cond).before _ s = true := hts _ (List.mem_of_getElem? (i := 3) (by decide +kernel))
  have k_274 : (.constantLong RX10 274 (6364136223846793005) : Cond).before _ s = true := hts _ (List.mem_of_getElem? (i := 4) (by decide +kernel))
  have k_276 : (.constantLong RX10 276 (1442695040888963407) : Cond).before _ s = true := hts _ (List.mem_of_getElem? (i := 5) (by decide +kernel))
  have l_53 : (.fieldLink RX10 53 "CoverOrder" "trialCovers" "LCoverOrder$Covers;" : Cond).before _ s = true := hts _ (List.mem_of_getElem? (i := 6) (by decide +kernel))
  have hl : lv_has ls 4 [(0, .ref a_t), (1, .int p1)] := hl
  rw [mX10_drawn] at hm
  refine lv_iload_n hx hb dX10_drawn_0 rfl (lv_at hl 1 rfl) ?_
  refine lv_iconst (v := 1) hx hb dX10_drawn_1 (by decide) ?_
  refine lv_icmp_lt (tgt := 11) hx hb dX10_drawn_2 (by decide) (fun c2 => ?_) (fun c2 => ?_)
  · rw [if_pos c2] at hm
    refine lv_bipush (v := (-2)) hx hb dX10_drawn_11 (by decide) ?_
    have hm := Option.some.inj hm
    subst hm
    exact k_iret (v := (-2)) X rfl dX10_drawn_13 hP hD hS
  · rw [if_neg c2] at hm
    refine lv_iload_n hx hb dX10_drawn_5 rfl (lv_at hl 1 rfl) ?_
    refine lv_bipush (v := 20) hx hb dX10_drawn_6 (by decide) ?_
    refine lv_icmp_le (tgt := 14) hx hb dX10_drawn_8 (by decide) (fun c8 => ?_) (fun c8 => ?_)
    · rw [if_pos c8] at hm
      refine lv_aload_n hx hb dX10_drawn_14 rfl (lv_at hl 0 rfl) ?_
      refine va_get (D := G) (ci := 7) (v := .ref a_t_trial) (C := RX10) (T := TX10) (N := 13) hx hb hts i_X10 hown hK hP 0 rfl rfl 2 (by decide) l_23 (fun _ h9 => h9) rfl dX10_drawn_15 ?_
      refine lv_aload_n hx hb dX10_drawn_18 rfl (lv_at hl 0 rfl) ?_
      refine va_get (D := G) (ci := 7) (v := .ref a_t_edges) (C := RX10) (T := TX10) (N := 13) hx hb hts i_X10 hown hK hP 0 rfl rfl 1 (by decide) l_19 (fun _ h9 => h9) rfl dX10_drawn_19 ?_
      obtain ⟨r22, hc22, hm⟩ := kbind hm
      refine kcV (ws1 := [(a_t, .inr (7, [.ref a_t_text, .ref a_t_edges, .ref a_t_trial, .ref a_t_acts, .ref a_t_slots, .ref a_t_seen, .ref a_t_covers, .ref a_t_trialCovers, .ref a_t_walk, .ref a_t_least, .ref a_t_told, .int k_t_keptSlots, .long k_t_theSeed])), (a_t_edges, .inr (2, [.ref a_t_edges_row, .int k_t_edges_knots, .int k_t_edges_nextStamp])), (a_t_edges_row, .inr (3, [.ref a_t_edges_row_items, .int k_t_edges_row_size])), (a_t_edges_row_items, .inl (cI, 24, .inl f_t_edges_row_items)), (a_t_trial, .inr (2, [.ref a_t_trial_row, .int r22.1, .int r22.2.1])), (a_t_trial_row, .inr (3, [.ref a_t_trial_row_items, .int r22.2.2.1])), (a_t_trial_row_items, .inl (cI, 24, .inl r22.2.2.2)), (a_t_trialCovers, .inr (1, [.long k_t_trialCovers_grid, .long k_t_trialCovers_covered, .long k_t_trialCovers_coverers, .int k_t_trialCovers_reached]))]) (st1 := []) X hA (c_X3_copy l G cI cZ cE a_t_trial a_t_trial_row a_t_trial_row_items a_t_edges a_t_edges_row a_t_edges_row_items k_t_trial_knots k_t_trial_nextStamp k_t_trial_row_size f_t_trial_row_items k_t_edges_knots k_t_edges_nextStamp k_t_edges_row_size f_t_edges_row_items r22 hc22) (cwV 1 hts gX10_drawn_X3_copy rfl rfl rfl hd_X3_copy ⟨Nat.le_of_ble_eq_true rfl, Nat.le_of_ble_eq_true rfl⟩) 4 2 rfl rfl hl.1 dX10_drawn_22 hP hD hS [4, 5, 6, 1, 2, 3] rfl rfl rfl rfl rfl [] rfl (Nat.le_of_ble_eq_true rfl) rfl ⟨Nat.zero_le _, Nat.zero_le _⟩ (fun H locs hP hD hS => ?_)
      refine lv_iconst (v := 0) hx hb dX10_drawn_25 (by decide) ?_
      refine lv_istore_n (lv' := [(2, .int 0), (0, .ref a_t), (1, .int p1)]) hx hb dX10_drawn_26 rfl hl (by decide) rfl (fun ls hl => ?_)
      refine lv_iconst (v := 0) hx hb dX10_drawn_27 (by decide) ?_
      refine lv_istore_n (lv' := [(3, .int 0), (2, .int 0), (0, .ref a_t), (1, .int p1)]) hx hb dX10_drawn_28 rfl hl (by decide) rfl (fun ls hl => ?_)
      have h29 : ∀ (n29 : Nat), ∀ (v29_2 : Int32) (v29_3 : Int32) (w29_k_t_theSeed : Int64) (w29_k_t_trial_nextStamp : Int32) (w29_k_t_trial_row_size : Int32) (w29_f_t_trial_row_items : Nat → Int32) (w29_k_t_trialCovers_grid : Int64) (w29_k_t_trialCovers_covered : Int64) (w29_k_t_trialCovers_coverers : Int64) (w29_k_t_trialCovers_reached : Int32) (H : Heap) (locs : List Loc) (ls : Array Slot), va_P G vwCl [(a_t, .inr (7, [.ref a_t_text, .ref a_t_edges, .ref a_t_trial, .ref a_t_acts, .ref a_t_slots, .ref a_t_seen, .ref a_t_covers, .ref a_t_trialCovers, .ref a_t_walk, .ref a_t_least, .ref a_t_told, .int k_t_keptSlots, .long w29_k_t_theSeed])), (a_t_edges, .inr (2, [.ref a_t_edges_row, .int k_t_edges_knots, .int k_t_edges_nextStamp])), (a_t_edges_row, .inr (3, [.ref a_t_edges_row_items, .int k_t_edges_row_size])), (a_t_edges_row_items, .inl (cI, 24, .inl f_t_edges_row_items)), (a_t_trial, .inr (2, [.ref a_t_trial_row, .int r22.1, .int w29_k_t_trial_nextStamp])), (a_t_trial_row, .inr (3, [.ref a_t_trial_row_items, .int w29_k_t_trial_row_size])), (a_t_trial_row_items, .inl (cI, 24, .inl w29_f_t_trial_row_items)), (a_t_trialCovers, .inr (1, [.long w29_k_t_trialCovers_grid, .long w29_k_t_trialCovers_covered, .long w29_k_t_trialCovers_coverers, .int w29_k_t_trialCovers_reached]))] H → va_D A [(a_t, .inr (7, [.ref a_t_text, .ref a_t_edges, .ref a_t_trial, .ref a_t_acts, .ref a_t_slots, .ref a_t_seen, .ref a_t_covers, .ref a_t_trialCovers, .ref a_t_walk, .ref a_t_least, .ref a_t_told, .int k_t_keptSlots, .long w29_k_t_theSeed])), (a_t_edges, .inr (2, [.ref a_t_edges_row, .int k_t_edges_knots, .int k_t_edges_nextStamp])), (a_t_edges_row, .inr (3, [.ref a_t_edges_row_items, .int k_t_edges_row_size])), (a_t_edges_row_items, .inl (cI, 24, .inl f_t_edges_row_items)), (a_t_trial, .inr (2, [.ref a_t_trial_row, .int r22.1, .int w29_k_t_trial_nextStamp])), (a_t_trial_row, .inr (3, [.ref a_t_trial_row_items, .int w29_k_t_trial_row_size])), (a_t_trial_row_items, .inl (cI, 24, .inl w29_f_t_trial_row_items)), (a_t_trialCovers, .inr (1, [.long w29_k_t_trialCovers_grid, .long w29_k_t_trialCovers_covered, .long w29_k_t_trialCovers_coverers, .int w29_k_t_trialCovers_reached]))] → va_S A s.heap H locs → lv_has ls 4 [(0, .ref a_t), (1, .int p1), (2, .int v29_2), (3, .int v29_3)] → mX10_drawn_L29 p1 r22 n29 v29_2 v29_3 w29_k_t_theSeed w29_k_t_trial_nextStamp w29_k_t_trial_row_size w29_f_t_trial_row_items w29_k_t_trialCovers_grid w29_k_t_trialCovers_covered w29_k_t_trialCovers_coverers w29_k_t_trialCovers_reached = some R → W p l e { frames := 6, cells := 0, slots := 0, locals := 133 } s m ([.ref a_t, .int p1] : List Value).toArray below meth c H locs 0 0 (kQ below G [(a_t, .inr (7, [.ref a_t_text, .ref a_t_edges, .ref a_t_trial, .ref a_t_acts, .ref a_t_slots, .ref a_t_seen, .ref a_t_covers, .ref a_t_trialCovers, .ref a_t_walk, .ref a_t_least, .ref a_t_told, .int k_t_keptSlots, .long R.2.1])), (a_t_edges, .inr (2, [.ref a_t_edges_row, .int k_t_edges_knots, .int k_t_edges_nextStamp])), (a_t_edges_row, .inr (3, [.ref a_t_edges_row_items, .int k_t_edges_row_size])), (a_t_edges_row_items, .inl (cI, 24, .inl f_t_edges_row_items)), (a_t_trial, .inr (2, [.ref a_t_trial_row, .int R.2.2.1, .int R.2.2.2.1])), (a_t_trial_row, .inr (3, [.ref a_t_trial_row_items, .int R.2.2.2.2.1])), (a_t_trial_row_items, .inl (cI, 24, .inl R.2.2.2.2.2.1)), (a_t_trialCovers, .inr (1, [.long R.2.2.2.2.2.2.1, .long R.2.2.2.2.2.2.2.1, .long R.2.2.2.2.2.2.2.2.1, .int R.2.2.2.2.2.2.2.2.2]))] (some (.int R.1)) A ([.ref a_t, .int p1] : List Value).toArray s) (F0 m 29 ls []) := by
        intro n29
        induction n29 with
        | zero => intro v29_2 v29_3 w29_k_t_theSeed w29_k_t_trial_nextStamp w29_k_t_trial_row_size w29_f_t_trial_row_items w29_k_t_trialCovers_grid w29_k_t_trialCovers_covered w29_k_t_trialCovers_coverers w29_k_t_trialCovers_reached H locs ls hP hD hS hl hm; rw [mX10_drawn_L29] at hm; cases hm
        | succ n29 ih29 =>
          intro v29_2 v29_3 w29_k_t_theSeed w29_k_t_trial_nextStamp w29_k_t_trial_row_size w29_f_t_trial_row_items w29_k_t_trialCovers_grid w29_k_t_trialCovers_covered w29_k_t_trialCovers_coverers w29_k_t_trialCovers_reached H locs ls hP hD hS hl hm
          rw [mX10_drawn_L29] at hm
          refine lv_iload_n hx hb dX10_drawn_29 rfl (lv_at hl 3 rfl) ?_
          refine lv_iload_n hx hb dX10_drawn_30 rfl (lv_at hl 1 rfl) ?_
          refine lv_icmp_ge (tgt := 95) hx hb dX10_drawn_31 (by decide) (fun c31 => ?_) (fun c31 => ?_)
          · rw [if_pos c31] at hm
            refine lv_iload_n hx hb dX10_drawn_95 rfl (lv_at hl 2 rfl) ?_
            have hm := Option.some.inj hm
            subst hm
            exact k_iret (v := v29_2) X rfl dX10_drawn_96 hP hD hS
          · rw [if_neg c31] at hm
            refine lv_aload_n hx hb dX10_drawn_34 rfl (lv_at hl 0 rfl) ?_
            refine lv_aload_n hx hb dX10_drawn_35 rfl (lv_at hl 0 rfl) ?_
            refine va_get (D := G) (ci := 7) (v := .long w29_k_t_theSeed) (C := RX10) (T := TX10) (N := 13) hx hb hts i_X10 hown hK hP 0 rfl rfl 12 (by decide) l_270 (fun _ h9 => h9) rfl dX10_drawn_36 ?_
            refine lv_ldc2 (v := 6364136223846793005) hx hb hown k_274 dX10_drawn_39 ?_
            refine lv_lmul hx hb dX10_drawn_42 ?_
            refine lv_ldc2 (v := 1442695040888963407) hx hb hown k_276 dX10_drawn_43 ?_
            refine lv_ladd hx hb dX10_drawn_46 ?_
            refine va_put (D := G) (ci := 7) (v := .long ((w29_k_t_theSeed * 6364136223846793005) + 1442695040888963407)) (ty := .long) (C := RX10) (T := TX10) (N := 13) hx hb hts i_X10 tyX10 tyX10_ok nmX10 hown hK hP hD hS 0 rfl rfl 12 (by decide) l_270 (fun _ h9 => h9) rfl (by decide +kernel) rfl rfl (Nat.le_of_ble_eq_true rfl) dX10_drawn_47 (fun H locs hP hD hS => ?_)
            have hP : va_P G vwCl [(a_t, .inr (7, [.ref a_t_text, .ref a_t_edges, .ref a_t_trial, .ref a_t_acts, .ref a_t_slots, .ref a_t_seen, .ref a_t_covers, .ref a_t_trialCovers, .ref a_t_walk, .ref a_t_least, .ref a_t_told, .int k_t_keptSlots, .long ((w29_k_t_theSeed * 6364136223846793005) + 1442695040888963407)])), (a_t_edges, .inr (2, [.ref a_t_edges_row, .int k_t_edges_knots, .int k_t_edges_nextStamp])), (a_t_edges_row, .inr (3, [.ref a_t_edges_row_items, .int k_t_edges_row_size])), (a_t_edges_row_items, .inl (cI, 24, .inl f_t_edges_row_items)), (a_t_trial, .inr (2, [.ref a_t_trial_row, .int r22.1, .int w29_k_t_trial_nextStamp])), (a_t_trial_row, .inr (3, [.ref a_t_trial_row_items, .int w29_k_t_trial_row_size])), (a_t_trial_row_items, .inl (cI, 24, .inl w29_f_t_trial_row_items)), (a_t_trialCovers, .inr (1, [.long w29_k_t_trialCovers_grid, .long w29_k_t_trialCovers_covered, .long w29_k_t_trialCovers_coverers, .int w29_k_t_trialCovers_reached]))] H := hP
            have hD : va_D A [(a_t, .inr (7, [.ref a_t_text, .ref a_t_edges, .ref a_t_trial, .ref a_t_acts, .ref a_t_slots, .ref a_t_seen, .ref a_t_covers, .ref a_t_trialCovers, .ref a_t_walk, .ref a_t_least, .ref a_t_told, .int k_t_keptSlots, .long ((w29_k_t_theSeed * 6364136223846793005) + 1442695040888963407)])), (a_t_edges, .inr (2, [.ref a_t_edges_row, .int k_t_edges_knots, .int k_t_edges_nextStamp])), (a_t_edges_row, .inr (3, [.ref a_t_edges_row_items, .int k_t_edges_row_size])), (a_t_edges_row_items, .inl (cI, 24, .inl f_t_edges_row_items)), (a_t_trial, .inr (2, [.ref a_t_trial_row, .int r22.1, .int w29_k_t_trial_nextStamp])), (a_t_trial_row, .inr (3, [.ref a_t_trial_row_items, .int w29_k_t_trial_row_size])), (a_t_trial_row_items, .inl (cI, 24, .inl w29_f_t_trial_row_items)), (a_t_trialCovers, .inr (1, [.long w29_k_t_trialCovers_grid, .long w29_k_t_trialCovers_covered, .long w29_k_t_trialCovers_coverers, .int w29_k_t_trialCovers_reached]))] := hD
            refine lv_aload_n hx hb dX10_drawn_50 rfl (lv_at hl 0 rfl) ?_
            refine va_get (D := G) (ci := 7) (v := .ref a_t_trial) (C := RX10) (T := TX10) (N := 13) hx hb hts i_X10 hown hK hP 0 rfl rfl 2 (by decide) l_23 (fun _ h9 => h9) rfl dX10_drawn_51 ?_
            refine lv_aload_n hx hb dX10_drawn_54 rfl (lv_at hl 0 rfl) ?_
            refine va_get (D := G) (ci := 7) (v := .long ((w29_k_t_theSeed * 6364136223846793005) + 1442695040888963407)) (C := RX10) (T := TX10) (N := 13) hx hb hts i_X10 hown hK hP 0 rfl rfl 12 (by decide) l_270 (fun _ h9 => h9) rfl dX10_drawn_55 ?_
            refine lv_bipush (v := 33) hx hb dX10_drawn_58 (by decide) ?_
            refine lv_lushr (v := ((((w29_k_t_theSeed * 6364136223846793005) + 1442695040888963407) : Int64).toUInt64 >>> ((33 : Int32).toInt64.toUInt64 &&& Int64.toUInt64 63)).toInt64) hx hb dX10_drawn_60 rfl ?_
            refine lv_l2i (v := (((((w29_k_t_theSeed * 6364136223846793005) + 1442695040888963407) : Int64).toUInt64 >>> ((33 : Int32).toInt64.toUInt64 &&& Int64.toUInt64 63)).toInt64 : Int64).toInt32) hx hb dX10_drawn_61 rfl ?_
            obtain ⟨r62, hc62, hm⟩ := kbind hm
            refine kcV (ws1 := [(a_t, .inr (7, [.ref a_t_text, .ref a_t_edges, .ref a_t_trial, .ref a_t_acts, .ref a_t_slots, .ref a_t_seen, .ref a_t_covers, .ref a_t_trialCovers, .ref a_t_walk, .ref a_t_least, .ref a_t_told, .int k_t_keptSlots, .long ((w29_k_t_theSeed * 6364136223846793005) + 1442695040888963407)])), (a_t_edges, .inr (2, [.ref a_t_edges_row, .int k_t_edges_knots, .int k_t_edges_nextStamp])), (a_t_edges_row, .inr (3, [.ref a_t_edges_row_items, .int k_t_edges_row_size])), (a_t_edges_row_items, .inl (cI, 24, .inl f_t_edges_row_items)), (a_t_trial, .inr (2, [.ref a_t_trial_row, .int r22.1, .int r62.1])), (a_t_trial_row, .inr (3, [.ref a_t_trial_row_items, .int r62.2.1])), (a_t_trial_row_items, .inl (cI, 24, .inl r62.2.2)), (a_t_trialCovers, .inr (1, [.long w29_k_t_trialCovers_grid, .long w29_k_t_trialCovers_covered, .long w29_k_t_trialCovers_coverers, .int w29_k_t_trialCovers_reached]))]) (st1 := []) X hA (c_X3_turnDrawn l G cI cZ cE a_t_trial a_t_trial_row a_t_trial_row_items r22.1 w29_k_t_trial_nextStamp w29_k_t_trial_row_size w29_f_t_trial_row_items ((((((w29_k_t_theSeed * 6364136223846793005) + 1442695040888963407) : Int64).toUInt64 >>> ((33 : Int32).toInt64.toUInt64 &&& Int64.toUInt64 63)).toInt64 : Int64).toInt32) r62 hc62) (cwV 1 hts gX10_drawn_X3_turnDrawn rfl rfl rfl hd_X3_turnDrawn ⟨Nat.le_of_ble_eq_true rfl, Nat.le_of_ble_eq_true rfl⟩) 4 2 rfl rfl hl.1 dX10_drawn_62 hP hD hS [4, 5, 6] rfl rfl rfl rfl rfl [] rfl (Nat.le_of_ble_eq_true rfl) rfl ⟨Nat.zero_le _, Nat.zero_le _⟩ (fun H locs hP hD hS => ?_)
            refine lv_aload_n hx hb dX10_drawn_65 rfl (lv_at hl 0 rfl) ?_
            refine va_get (D := G) (ci := 7) (v := .ref a_t_trialCovers) (C := RX10) (T := TX10) (N := 13) hx hb hts i_X10 hown hK hP 0 rfl rfl 7 (by decide) l_53 (fun _ h9 => h9) rfl dX10_drawn_66 ?_
            refine lv_aload_n hx hb dX10_drawn_69 rfl (lv_at hl 0 rfl) ?_
            refine va_get (D := G) (ci := 7) (v := .ref a_t_trial) (C := RX10) (T := TX10) (N := 13) hx hb hts i_X10 hown hK hP 0 rfl rfl 2 (by decide) l_23 (fun _ h9 => h9) rfl dX10_drawn_70 ?_
            obtain ⟨r73, hc73, hm⟩ := kbind hm
            refine kcV0 (st1 := [.long r73, .ref a_t_trialCovers]) X hA (c_X3_grid l G cI cZ cE a_t_trial a_t_trial_row a_t_trial_row_items r22.1 r62.1 r62.2.1 r62.2.2 r73 hc73) (cwV 0 hts gX10_drawn_X3_grid rfl rfl rfl hd_X3_grid ⟨Nat.le_of_ble_eq_true rfl, Nat.le_of_ble_eq_true rfl⟩) 4 2 rfl rfl hl.1 dX10_drawn_73 hP hD hS [4, 5, 6] rfl rfl rfl [.ref a_t_trialCovers] rfl (Nat.le_of_ble_eq_true rfl) rfl ⟨Nat.zero_le _, Nat.zero_le _⟩ (fun H locs hP hD hS => ?_)
            obtain ⟨r76, hc76, hm⟩ := kbind hm
            refine kcV (ws1 := [(a_t, .inr (7, [.ref a_t_text, .ref a_t_edges, .ref a_t_trial, .ref a_t_acts, .ref a_t_slots, .ref a_t_seen, .ref a_t_covers, .ref a_t_trialCovers, .ref a_t_walk, .ref a_t_least, .ref a_t_told, .int k_t_keptSlots, .long ((w29_k_t_theSeed * 6364136223846793005) + 1442695040888963407)])), (a_t_edges, .inr (2, [.ref a_t_edges_row, .int k_t_edges_knots, .int k_t_edges_nextStamp])), (a_t_edges_row, .inr (3, [.ref a_t_edges_row_items, .int k_t_edges_row_size])), (a_t_edges_row_items, .inl (cI, 24, .inl f_t_edges_row_items)), (a_t_trial, .inr (2, [.ref a_t_trial_row, .int r22.1, .int r62.1])), (a_t_trial_row, .inr (3, [.ref a_t_trial_row_items, .int r62.2.1])), (a_t_trial_row_items, .inl (cI, 24, .inl r62.2.2)), (a_t_trialCovers, .inr (1, [.long r76.1, .long r76.2.1, .long r76.2.2.1, .int r76.2.2.2]))]) (st1 := []) X hA (c_X2_learn l G cI cZ cE a_t_trialCovers w29_k_t_trialCovers_grid w29_k_t_trialCovers_covered w29_k_t_trialCovers_coverers w29_k_t_trialCovers_reached r73 r76 hc76) (cwV 1 hts gX10_drawn_X2_learn rfl rfl rfl hd_X2_learn ⟨Nat.le_of_ble_eq_true rfl, Nat.le_of_ble_eq_true rfl⟩) 7 1 rfl rfl hl.1 dX10_drawn_76 hP hD hS [7] rfl rfl rfl rfl rfl [] rfl (Nat.le_of_ble_eq_true rfl) rfl ⟨Nat.zero_le _, Nat.zero_le _⟩ (fun H locs hP hD hS => ?_)
            refine lv_iload_n hx hb dX10_drawn_79 rfl (lv_at hl 2 rfl) ?_
            refine lv_aload_n hx hb dX10_drawn_80 rfl (lv_at hl 0 rfl) ?_
            refine va_get (D := G) (ci := 7) (v := .ref a_t_trialCovers) (C := RX10) (T := TX10) (N := 13) hx hb hts i_X10 hown hK hP 0 rfl rfl 7 (by decide) l_53 (fun _ h9 => h9) rfl dX10_drawn_81 ?_
            obtain ⟨r84, hc84, hm⟩ := kbind hm
            refine kcV0 (st1 := [.int r84, .int v29_2]) X hA (c_X2_depthSum l G cI cZ cE a_t_trialCovers r76.1 r76.2.1 r76.2.2.1 r76.2.2.2 r84 hc84) (cwV 0 hts gX10_drawn_X2_depthSum rfl rfl rfl hd_X2_depthSum ⟨Nat.le_of_ble_eq_true rfl, Nat.le_of_ble_eq_true rfl⟩) 7 1 rfl rfl hl.1 dX10_drawn_84 hP hD hS [7] rfl rfl rfl [.int v29_2] rfl (Nat.le_of_ble_eq_true rfl) rfl ⟨Nat.zero_le _, Nat.zero_le _⟩ (fun H locs hP hD hS => ?_)
            refine lv_iadd hx hb dX10_drawn_87 ?_
            refine lv_istore_n (lv' := [(2, .int (v29_2 + r84)), (0, .ref a_t), (1, .int p1), (3, .int v29_3)]) hx hb dX10_drawn_88 rfl hl (by decide) rfl (fun ls hl => ?_)
            refine lv_iinc (v := v29_3 + 1) (lv' := [(3, .int (v29_3 + 1)), (2, .int (v29_2 + r84)), (0, .ref a_t), (1, .int p1)]) hx hb dX10_drawn_89 hl (k := 3) rfl rfl (by decide) rfl (fun ls hl => ?_)
            refine lv_goto (tgt := 29) hx hb dX10_drawn_92 (by decide) ?_
            exact ih29 (v29_2 + r84) (v29_3 + 1) ((w29_k_t_theSeed * 6364136223846793005) + 1442695040888963407) r62.1 r62.2.1 r62.2.2 r76.1 r76.2.1 r76.2.2.1 r76.2.2.2 _ _ _ hP hD hS (lv_sub hl [2, 3, 1, 0] rfl) hm
      exact h29 kFU 0 0 k_t_theSeed r22.2.1 r22.2.2.1 r22.2.2.2 k_t_trialCovers_grid k_t_trialCovers_covered k_t_trialCovers_coverers k_t_trialCovers_reached _ _ _ hP hD hS (lv_sub hl [2, 3, 1, 0] rfl) hm
    · rw [if_neg c8] at hm
      refine lv_bipush (v := (-2)) hx hb dX10_drawn_11 (by decide) ?_
      have hm := Option.some.inj hm
      subst hm
      exact k_iret (v := (-2)) X rfl dX10_drawn_13 hP hD hS
theorem hd_X10_drawn : yX10_drawn.cls = RX10 ∧ yX10_drawn.cls ≠ "java/lang/invoke/MethodHandle" ∧ yX10_drawn.cls ≠ "java/lang/invoke/VarHandle" ∧ (parseMethodDescriptor yX10_drawn.desc).map (fun d => d.parameters.length) = some 1 := by decide +kernel
/-! CoverOrder slotAt -/
set_option maxRecDepth 100000 in
set_option maxHeartbeats 4000000 in
theorem c_X10_slotAt (l : Launch) (G : va_G) (cI cZ cE : ClassId) (a_t a_t_text a_t_edges a_t_trial a_t_acts a_t_slots a_t_seen a_t_covers a_t_trialCovers a_t_walk a_t_least a_t_told a_t_slots_0 a_t_slots_1 : Nat) (k_t_keptSlots : Int32) (k_t_theSeed : Int64) (p1 : Int32) (R : Option Nat) (hm : mX10_slotAt a_t_slots_0 a_t_slots_1 p1 = R) : kM l yX10_slotAt wsX10_slotAt { frames := 0, cells := 0, slots := 0, locals := 0 } G cI cZ cE [.ref a_t, .int p1] [(a_t, .inr (7, [.ref a_t_text, .ref a_t_edges, .ref a_t_trial, .ref a_t_acts, .ref a_t_slots, .ref a_t_seen, .ref a_t_covers, .ref a_t_trialCovers, .ref a_t_walk, .ref a_t_least, .ref a_t_told, .int k_t_keptSlots, .long k_t_theSeed])), (a_t_slots, .inl (cE, 2, .inr (.inr (.inr (.inr (kS2 a_t_slots_0 a_t_slots_1))))))] [(a_t, .inr (7, [.ref a_t_text, .ref a_t_edges, .ref a_t_trial, .ref a_t_acts, .ref a_t_slots, .ref a_t_seen, .ref a_t_covers, .ref a_t_trialCovers, .ref a_t_walk, .ref a_t_least, .ref a_t_told, .int k_t_keptSlots, .long k_t_theSeed])), (a_t_slots, .inl (cE, 2, .inr (.inr (.inr (.inr (kS2 a_t_slots_0 a_t_slots_1))))))] (some (va_rf R)) := by
  refine kM_of cX10_slotAt 2 (some (.object "CoverOrder$Edges")) RX10 (by decide) rfl rfl (Nat.le_of_ble_eq_true rfl) ?_
  intro p e s m below meth c A ls X hA hP hD hS hl
  have hx := X.1.1
  have hb := X.1.2.1
  have hts := X.1.2.2.2.2
  have hown := X.1.2.2.2.1
  have hK := X.2.2.2.1
  have l_33 : (.fieldLink RX10 33 "CoverOrder" "slots" "[LCoverOrder$Edges;" : Cond).before _ s = true := hts _ (List.mem_of_getElem? (i := 1) (by decide +kernel))
  have i_X10 : ∀ w ∈ u_ws RX10 TX10 13, w ∈ wsX10_slotAt := k_in _ [2, 3, 4, 5, 6, 7, 8, 9, 10, 11, 12, 13, 14] (by decide +kernel)
  have hl : lv_has ls 2 [(0, .ref a_t), (1, .int p1)] := hl
  rw [mX10_slotAt] at hm
  refine lv_iload_n hx hb dX10_slotAt_0 rfl (lv_at hl 1 rfl) ?_
  refine lv_if_lt (tgt := 22) hx hb dX10_slotAt_1 (by decide) (fun c1 => ?_) (fun c1 => ?_)
  · rw [if_pos c1] at hm
    refine lv_null hx hb dX10_slotAt_22 ?_
    refine W.eq (g2 := F0 m 23 ls [va_rf none]) rfl ?_
    subst hm
    exact k_aret (v := none) X rfl dX10_slotAt_23 hP hD hS
  · rw [if_neg c1] at hm
    refine lv_iload_n hx hb dX10_slotAt_4 rfl (lv_at hl 1 rfl) ?_
    refine lv_aload_n hx hb dX10_slotAt_5 rfl (lv_at hl 0 rfl) ?_
    refine va_get (D := G) (ci := 7) (v := .ref a_t_slots) (C := RX10) (T := TX10) (N := 13) hx hb hts i_X10 hown hK hP 0 rfl rfl 4 (by decide) l_33 (fun _ h9 => h9) rfl dX10_slotAt_6 ?_
    refine va_alen (v := 2) hx hb hK hP 1 2 rfl rfl rfl dX10_slotAt_9 ?_
    refine lv_icmp_ge (tgt := 22) hx hb dX10_slotAt_10 (by decide) (fun c10 => ?_) (fun c10 => ?_)
    · rw [if_pos c10] at hm
      refine lv_null hx hb dX10_slotAt_22 ?_
      refine W.eq (g2 := F0 m 23 ls [va_rf none]) rfl ?_
      subst hm
      exact k_aret (v := none) X rfl dX10_slotAt_23 hP hD hS
    · rw [if_neg c10] at hm
      refine lv_aload_n hx hb dX10_slotAt_13 rfl (lv_at hl 0 rfl) ?_
      refine va_get (D := G) (ci := 7) (v := .ref a_t_slots) (C := RX10) (T := TX10) (N := 13) hx hb hts i_X10 hown hK hP 0 rfl rfl 4 (by decide) l_33 (fun _ h9 => h9) rfl dX10_slotAt_14 ?_
      refine lv_iload_n hx hb dX10_slotAt_17 rfl (lv_at hl 1 rfl) ?_
      refine va_aldq hx hb hK hP 1 2 rfl rfl (kin_path2 c1 c10) dX10_slotAt_18 ?_
      refine lv_goto (tgt := 23) hx hb dX10_slotAt_19 (by decide) ?_
      subst hm
      exact k_aret (v := kS2 a_t_slots_0 a_t_slots_1 (Int32.toNatClampNeg p1)) X rfl dX10_slotAt_23 hP hD hS
theorem hd_X10_slotAt : yX10_slotAt.cls = RX10 ∧ yX10_slotAt.cls ≠ "java/lang/invoke/MethodHandle" ∧ yX10_slotAt.cls ≠ "java/lang/invoke/VarHandle" ∧ (parseMethodDescriptor yX10_slotAt.desc).map (fun d => d.parameters.length) = some 1 := by decide +kernel
/-! CoverOrder keep -/
set_option maxRecDepth 100000 in
set_option maxHeartbeats 4000000 in
theorem c_X10_keep (l : Launch) (G : va_G) (cI cZ cE : ClassId) (a_t a_t_text a_t_edges a_t_trial a_t_acts a_t_slots a_t_seen a_t_covers a_t_trialCovers a_t_walk a_t_least a_t_told a_t_edges_row a_t_edges_row_items a_t_slots_0 a_t_slots_1 a_t_slots_0_row a_t_slots_0_row_items a_t_slots_1_row a_t_slots_1_row_items : Nat) (k_t_keptSlots : Int32) (k_t_theSeed : Int64) (k_t_edges_knots : Int32) (k_t_edges_nextStamp : Int32) (k_t_edges_row_size : Int32) (f_t_edges_row_items : Nat → Int32) (k_t_slots_0_knots : Int32) (k_t_slots_0_nextStamp : Int32) (k_t_slots_0_row_size : Int32) (f_t_slots_0_row_items : Nat → Int32) (k_t_slots_1_knots : Int32) (k_t_slots_1_nextStamp : Int32) (k_t_slots_1_row_size : Int32) (f_t_slots_1_row_items : Nat → Int32) (p1 : Int32) (R : Int32 × Int32 × Int32 × Int32 × Int32 × (Nat → Int32) × Int32 × Int32 × Int32 × (Nat → Int32)) (hm : mX10_keep k_t_keptSlots k_t_edges_knots k_t_edges_nextStamp k_t_edges_row_size f_t_edges_row_items k_t_slots_0_knots k_t_slots_0_nextStamp k_t_slots_0_row_size f_t_slots_0_row_items k_t_slots_1_knots k_t_slots_1_nextStamp k_t_slots_1_row_size f_t_slots_1_row_items p1 = some R) : kM l yX10_keep wsX10_keep { frames := 5, cells := 0, slots := 0, locals := 107 } G cI cZ cE [.ref a_t, .int p1] [(a_t, .inr (7, [.ref a_t_text, .ref a_t_edges, .ref a_t_trial, .ref a_t_acts, .ref a_t_slots, .ref a_t_seen, .ref a_t_covers, .ref a_t_trialCovers, .ref a_t_walk, .ref a_t_least, .ref a_t_told, .int k_t_keptSlots, .long k_t_theSeed])), (a_t_edges, .inr (2, [.ref a_t_edges_row, .int k_t_edges_knots, .int k_t_edges_nextStamp])), (a_t_edges_row, .inr (3, [.ref a_t_edges_row_items, .int k_t_edges_row_size])), (a_t_edges_row_items, .inl (cI, 24, .inl f_t_edges_row_items)), (a_t_slots, .inl (cE, 2, .inr (.inr (.inr (.inr (kS2 a_t_slots_0 a_t_slots_1)))))), (a_t_slots_0, .inr (2, [.ref a_t_slots_0_row, .int k_t_slots_0_knots, .int k_t_slots_0_nextStamp])), (a_t_slots_0_row, .inr (3, [.ref a_t_slots_0_row_items, .int k_t_slots_0_row_size])), (a_t_slots_0_row_items, .inl (cI, 24, .inl f_t_slots_0_row_items)), (a_t_slots_1, .inr (2, [.ref a_t_slots_1_row, .int k_t_slots_1_knots, .int k_t_slots_1_nextStamp])), (a_t_slots_1_row, .inr (3, [.ref a_t_slots_1_row_items, .int k_t_slots_1_row_size])), (a_t_slots_1_row_items, .inl (cI, 24, .inl f_t_slots_1_row_items))] [(a_t, .inr (7, [.ref a_t_text, .ref a_t_edges, .ref a_t_trial, .ref a_t_acts, .ref a_t_slots, .ref a_t_seen, .ref a_t_covers, .ref a_t_trialCovers, .ref a_t_walk, .ref a_t_least, .ref a_t_told, .int R.2.1, .long k_t_theSeed])), (a_t_edges, .inr (2, [.ref a_t_edges_row, .int k_t_edges_knots, .int k_t_edges_nextStamp])), (a_t_edges_row, .inr (3, [.ref a_t_edges_row_items, .int k_t_edges_row_size])), (a_t_edges_row_items, .inl (cI, 24, .inl f_t_edges_row_items)), (a_t_slots, .inl (cE, 2, .inr (.inr (.inr (.inr (kS2 a_t_slots_0 a_t_slots_1)))))), (a_t_slots_0, .inr (2, [.ref a_t_slots_0_row, .int R.2.2.1, .int R.2.2.2.1])), (a_t_slots_0_row, .inr (3, [.ref a_t_slots_0_row_items, .int R.2.2.2.2.1])), (a_t_slots_0_row_items, .inl (cI, 24, .inl R.2.2.2.2.2.1)), (a_t_slots_1, .inr (2, [.ref a_t_slots_1_row, .int R.2.2.2.2.2.2.1, .int R.2.2.2.2.2.2.2.1])), (a_t_slots_1_row, .inr (3, [.ref a_t_slots_1_row_items, .int R.2.2.2.2.2.2.2.2.1])), (a_t_slots_1_row_items, .inl (cI, 24, .inl R.2.2.2.2.2.2.2.2.2))] (some (.int R.1)) := by
  refine kM_of cX10_keep 3 (some .int) RX10 (by decide) rfl rfl (Nat.le_of_ble_eq_true rfl) ?_
  intro p e s m below meth c A ls X hA hP hD hS hl
  have hx := X.1.1
  have hb := X.1.2.1
  have hts := X.1.2.2.2.2
  have hown := X.1.2.2.2.1
  have hK := X.2.2.2.1
  have l_19 : (.fieldLink RX10 19 "CoverOrder" "edges" "LCoverOrder$Edges;" : Cond).before _ s = true := hts _ (List.mem_of_getElem? (i := 1) (by decide +kernel))
  have i_X10 : ∀ w ∈ u_ws RX10 TX10 13, w ∈ wsX10_keep := k_in _ [56, 57, 58, 59, 60, 61, 62, 63, 64, 65, 66, 67, 68] (by decide +kernel)
  have l_95 : (.fieldLink RX10 95 "CoverOrder" "keptSlots" "I" : Cond).before _ s = true := hts _ (List.mem_of_getElem? (i := 2) (by decide +kernel))
  have hl : lv_has ls 3 [(0, .ref a_t), (1, .int p1)] := hl
  rw [mX10_keep] at hm
  refine lv_aload_n hx hb dX10_keep_0 rfl (lv_at hl 0 rfl) ?_
  refine lv_iload_n hx hb dX10_keep_1 rfl (lv_at hl 1 rfl) ?_
  refine kcV0 (st1 := [va_rf (mX10_slotAt a_t_slots_0 a_t_slots_1 p1)]) X hA (c_X10_slotAt l G cI cZ cE a_t a_t_text a_t_edges a_t_trial a_t_acts a_t_slots a_t_seen a_t_covers a_t_trialCovers a_t_walk a_t_least a_t_told a_t_slots_0 a_t_slots_1 k_t_keptSlots k_t_theSeed p1 _ rfl) (cwV 1 hts gX10_keep_X10_slotAt rfl rfl rfl hd_X10_slotAt ⟨Nat.le_of_ble_eq_true rfl, Nat.le_of_ble_eq_true rfl⟩) 0 7 rfl rfl hl.1 dX10_keep_2 hP hD hS [0, 4] rfl rfl rfl [] rfl (Nat.le_of_ble_eq_true rfl) rfl ⟨Nat.zero_le _, Nat.zero_le _⟩ (fun H locs hP hD hS => ?_)
  rcases Classical.em (p1 = 0) with c2_0 | c2_0
  · rw [if_pos c2_0] at hm
    refine W.eq (g2 := F0 m 5 ls [.ref a_t_slots_0]) (by rw [show mX10_slotAt a_t_slots_0 a_t_slots_1 p1 = some a_t_slots_0 from by rw [c2_0]; rfl]; rfl) ?_
    refine lv_astore_n (lv' := [(2, .ref a_t_slots_0), (0, .ref a_t), (1, .int p1)]) hx hb dX10_keep_5 rfl hl (by decide) rfl (fun ls hl => ?_)
    refine lv_aload_n hx hb dX10_keep_6 rfl (lv_at hl 0 rfl) ?_
    refine lv_ifnonnull (tgt := 12) hx hb dX10_keep_7 (by decide) ?_
    refine lv_aload_n hx hb dX10_keep_12 rfl (lv_at hl 0 rfl) ?_
    refine lv_aload_n hx hb dX10_keep_13 rfl (lv_at hl 1 rfl) ?_
    refine va_get (D := G) (ci := 7) (v := .ref a_t_edges) (C := RX10) (T := TX10) (N := 13) hx hb hts i_X10 hown hK hP 0 rfl rfl 1 (by decide) l_19 (fun _ h9 => h9) rfl dX10_keep_14 ?_
    obtain ⟨r17, hc17, hm⟩ := kbind hm
    refine kcV (ws1 := [(a_t, .inr (7, [.ref a_t_text, .ref a_t_edges, .ref a_t_trial, .ref a_t_acts, .ref a_t_slots, .ref a_t_seen, .ref a_t_covers, .ref a_t_trialCovers, .ref a_t_walk, .ref a_t_least, .ref a_t_told, .int k_t_keptSlots, .long k_t_theSeed])), (a_t_edges, .inr (2, [.ref a_t_edges_row, .int k_t_edges_knots, .int k_t_edges_nextStamp])), (a_t_edges_row, .inr (3, [.ref a_t_edges_row_items, .int k_t_edges_row_size])), (a_t_edges_row_items, .inl (cI, 24, .inl f_t_edges_row_items)), (a_t_slots, .inl (cE, 2, .inr (.inr (.inr (.inr (kS2 a_t_slots_0 a_t_slots_1)))))), (a_t_slots_0, .inr (2, [.ref a_t_slots_0_row, .int r17.1, .int r17.2.1])), (a_t_slots_0_row, .inr (3, [.ref a_t_slots_0_row_items, .int r17.2.2.1])), (a_t_slots_0_row_items, .inl (cI, 24, .inl r17.2.2.2)), (a_t_slots_1, .inr (2, [.ref a_t_slots_1_row, .int k_t_slots_1_knots, .int k_t_slots_1_nextStamp])), (a_t_slots_1_row, .inr (3, [.ref a_t_slots_1_row_items, .int k_t_slots_1_row_size])), (a_t_slots_1_row_items, .inl (cI, 24, .inl f_t_slots_1_row_items))]) (st1 := []) X hA (c_X3_copy l G cI cZ cE a_t_slots_0 a_t_slots_0_row a_t_slots_0_row_items a_t_edges a_t_edges_row a_t_edges_row_items k_t_slots_0_knots k_t_slots_0_nextStamp k_t_slots_0_row_size f_t_slots_0_row_items k_t_edges_knots k_t_edges_nextStamp k_t_edges_row_size f_t_edges_row_items r17 hc17) (cwV 1 hts gX10_keep_X3_copy rfl rfl rfl hd_X3_copy ⟨Nat.le_of_ble_eq_true rfl, Nat.le_of_ble_eq_true rfl⟩) 5 2 rfl rfl hl.1 dX10_keep_17 hP hD hS [5, 6, 7, 1, 2, 3] rfl rfl rfl rfl rfl [] rfl (Nat.le_of_ble_eq_true rfl) rfl ⟨Nat.zero_le _, Nat.zero_le _⟩ (fun H locs hP hD hS => ?_)
    refine lv_aload_n hx hb dX10_keep_20 rfl (lv_at hl 1 rfl) ?_
    refine lv_dup hx hb dX10_keep_21 rfl ?_
    refine va_get (D := G) (ci := 7) (v := .int k_t_keptSlots) (C := RX10) (T := TX10) (N := 13) hx hb hts i_X10 hown hK hP 0 rfl rfl 11 (by decide) l_95 (fun _ h9 => h9) rfl dX10_keep_22 ?_
    refine lv_iload_n hx hb dX10_keep_25 rfl (lv_at hl 2 rfl) ?_
    refine kcS0 (st1 := [.int (mX5_only p1), .int k_t_keptSlots, .ref a_t]) X hA (c_X5_only l G cI cZ cE p1 _ rfl) (va_cwS 1 hts gX10_keep_X5_only rfl rfl rfl hd_X5_only ⟨Nat.le_of_ble_eq_true rfl, Nat.le_of_ble_eq_true rfl⟩) hl.1 dX10_keep_26 hP hD hS [] rfl rfl rfl [.int k_t_keptSlots, .ref a_t] rfl (Nat.le_of_ble_eq_true rfl) rfl ⟨Nat.zero_le _, Nat.zero_le _⟩ (fun H locs hP hD hS => ?_)
    refine lv_ior hx hb dX10_keep_29 ?_
    refine va_put (D := G) (ci := 7) (v := .int (k_t_keptSlots ||| (mX5_only p1))) (ty := .int) (C := RX10) (T := TX10) (N := 13) hx hb hts i_X10 tyX10 tyX10_ok nmX10 hown hK hP hD hS 0 rfl rfl 11 (by decide) l_95 (fun _ h9 => h9) rfl (by decide +kernel) rfl rfl (Nat.le_of_ble_eq_true rfl) dX10_keep_30 (fun H locs hP hD hS => ?_)
    have hP : va_P G vwCl [(a_t, .inr (7, [.ref a_t_text, .ref a_t_edges, .ref a_t_trial, .ref a_t_acts, .ref a_t_slots, .ref a_t_seen, .ref a_t_covers, .ref a_t_trialCovers, .ref a_t_walk, .ref a_t_least, .ref a_t_told, .int (k_t_keptSlots ||| (mX5_only p1)), .long k_t_theSeed])), (a_t_edges, .inr (2, [.ref a_t_edges_row, .int k_t_edges_knots, .int k_t_edges_nextStamp])), (a_t_edges_row, .inr (3, [.ref a_t_edges_row_items, .int k_t_edges_row_size])), (a_t_edges_row_items, .inl (cI, 24, .inl f_t_edges_row_items)), (a_t_slots, .inl (cE, 2, .inr (.inr (.inr (.inr (kS2 a_t_slots_0 a_t_slots_1)))))), (a_t_slots_0, .inr (2, [.ref a_t_slots_0_row, .int r17.1, .int r17.2.1])), (a_t_slots_0_row, .inr (3, [.ref a_t_slots_0_row_items, .int r17.2.2.1])), (a_t_slots_0_row_items, .inl (cI, 24, .inl r17.2.2.2)), (a_t_slots_1, .inr (2, [.ref a_t_slots_1_row, .int k_t_slots_1_knots, .int k_t_slots_1_nextStamp])), (a_t_slots_1_row, .inr (3, [.ref a_t_slots_1_row_items, .int k_t_slots_1_row_size])), (a_t_slots_1_row_items, .inl (cI, 24, .inl f_t_slots_1_row_items))] H := hP
    have hD : va_D A [(a_t, .inr (7, [.ref a_t_text, .ref a_t_edges, .ref a_t_trial, .ref a_t_acts, .ref a_t_slots, .ref a_t_seen, .ref a_t_covers, .ref a_t_trialCovers, .ref a_t_walk, .ref a_t_least, .ref a_t_told, .int (k_t_keptSlots ||| (mX5_only p1)), .long k_t_theSeed])), (a_t_edges, .inr (2, [.ref a_t_edges_row, .int k_t_edges_knots, .int k_t_edges_nextStamp])), (a_t_edges_row, .inr (3, [.ref a_t_edges_row_items, .int k_t_edges_row_size])), (a_t_edges_row_items, .inl (cI, 24, .inl f_t_edges_row_items)), (a_t_slots, .inl (cE, 2, .inr (.inr (.inr (.inr (kS2 a_t_slots_0 a_t_slots_1)))))), (a_t_slots_0, .inr (2, [.ref a_t_slots_0_row, .int r17.1, .int r17.2.1])), (a_t_slots_0_row, .inr (3, [.ref a_t_slots_0_row_items, .int r17.2.2.1])), (a_t_slots_0_row_items, .inl (cI, 24, .inl r17.2.2.2)), (a_t_slots_1, .inr (2, [.ref a_t_slots_1_row, .int k_t_slots_1_knots, .int k_t_slots_1_nextStamp])), (a_t_slots_1_row, .inr (3, [.ref a_t_slots_1_row_items, .int k_t_slots_1_row_size])), (a_t_slots_1_row_items, .inl (cI, 24, .inl f_t_slots_1_row_items))] := hD
    refine lv_aload_n hx hb dX10_keep_33 rfl (lv_at hl 0 rfl) ?_
    refine kcV0 (st1 := [.int (mX3_size r17.2.2.1)]) X hA (c_X3_size l G cI cZ cE a_t_slots_0 a_t_slots_0_row a_t_slots_0_row_items r17.1 r17.2.1 r17.2.2.1 _ rfl) (cwV 0 hts gX10_keep_X3_size rfl rfl rfl hd_X3_size ⟨Nat.le_of_ble_eq_true rfl, Nat.le_of_ble_eq_true rfl⟩) 5 2 rfl rfl hl.1 dX10_keep_34 hP hD hS [5, 6] rfl rfl rfl [] rfl (Nat.le_of_ble_eq_true rfl) rfl ⟨Nat.zero_le _, Nat.zero_le _⟩ (fun H locs hP hD hS => ?_)
    have hm := Option.some.inj hm
    subst hm
    exact k_iret (v := (mX3_size r17.2.2.1)) X rfl dX10_keep_37 hP hD hS
  rw [if_neg c2_0] at hm
  rcases Classical.em (p1 = 1) with c2_1 | c2_1
  · rw [if_pos c2_1] at hm
    refine W.eq (g2 := F0 m 5 ls [.ref a_t_slots_1]) (by rw [show mX10_slotAt a_t_slots_0 a_t_slots_1 p1 = some a_t_slots_1 from by rw [c2_1]; rfl]; rfl) ?_
    refine lv_astore_n (lv' := [(2, .ref a_t_slots_1), (0, .ref a_t), (1, .int p1)]) hx hb dX10_keep_5 rfl hl (by decide) rfl (fun ls hl => ?_)
    refine lv_aload_n hx hb dX10_keep_6 rfl (lv_at hl 0 rfl) ?_
    refine lv_ifnonnull (tgt := 12) hx hb dX10_keep_7 (by decide) ?_
    refine lv_aload_n hx hb dX10_keep_12 rfl (lv_at hl 0 rfl) ?_
    refine lv_aload_n hx hb dX10_keep_13 rfl (lv_at hl 1 rfl) ?_
    refine va_get (D := G) (ci := 7) (v := .ref a_t_edges) (C := RX10) (T := TX10) (N := 13) hx hb hts i_X10 hown hK hP 0 rfl rfl 1 (by decide) l_19 (fun _ h9 => h9) rfl dX10_keep_14 ?_
    obtain ⟨r17, hc17, hm⟩ := kbind hm
    refine kcV (ws1 := [(a_t, .inr (7, [.ref a_t_text, .ref a_t_edges, .ref a_t_trial, .ref a_t_acts, .ref a_t_slots, .ref a_t_seen, .ref a_t_covers, .ref a_t_trialCovers, .ref a_t_walk, .ref a_t_least, .ref a_t_told, .int k_t_keptSlots, .long k_t_theSeed])), (a_t_edges, .inr (2, [.ref a_t_edges_row, .int k_t_edges_knots, .int k_t_edges_nextStamp])), (a_t_edges_row, .inr (3, [.ref a_t_edges_row_items, .int k_t_edges_row_size])), (a_t_edges_row_items, .inl (cI, 24, .inl f_t_edges_row_items)), (a_t_slots, .inl (cE, 2, .inr (.inr (.inr (.inr (kS2 a_t_slots_0 a_t_slots_1)))))), (a_t_slots_0, .inr (2, [.ref a_t_slots_0_row, .int k_t_slots_0_knots, .int k_t_slots_0_nextStamp])), (a_t_slots_0_row, .inr (3, [.ref a_t_slots_0_row_items, .int k_t_slots_0_row_size])), (a_t_slots_0_row_items, .inl (cI, 24, .inl f_t_slots_0_row_items)), (a_t_slots_1, .inr (2, [.ref a_t_slots_1_row, .int r17.1, .int r17.2.1])), (a_t_slots_1_row, .inr (3, [.ref a_t_slots_1_row_items, .int r17.2.2.1])), (a_t_slots_1_row_items, .inl (cI, 24, .inl r17.2.2.2))]) (st1 := []) X hA (c_X3_copy l G cI cZ cE a_t_slots_1 a_t_slots_1_row a_t_slots_1_row_items a_t_edges a_t_edges_row a_t_edges_row_items k_t_slots_1_knots k_t_slots_1_nextStamp k_t_slots_1_row_size f_t_slots_1_row_items k_t_edges_knots k_t_edges_nextStamp k_t_edges_row_size f_t_edges_row_items r17 hc17) (cwV 1 hts gX10_keep_X3_copy rfl rfl rfl hd_X3_copy ⟨Nat.le_of_ble_eq_true rfl, Nat.le_of_ble_eq_true rfl⟩) 8 2 rfl rfl hl.1 dX10_keep_17 hP hD hS [8, 9, 10, 1, 2, 3] rfl rfl rfl rfl rfl [] rfl (Nat.le_of_ble_eq_true rfl) rfl ⟨Nat.zero_le _, Nat.zero_le _⟩ (fun H locs hP hD hS => ?_)
    refine lv_aload_n hx hb dX10_keep_20 rfl (lv_at hl 1 rfl) ?_
    refine lv_dup hx hb dX10_keep_21 rfl ?_
    refine va_get (D := G) (ci := 7) (v := .int k_t_keptSlots) (C := RX10) (T := TX10) (N := 13) hx hb hts i_X10 hown hK hP 0 rfl rfl 11 (by decide) l_95 (fun _ h9 => h9) rfl dX10_keep_22 ?_
    refine lv_iload_n hx hb dX10_keep_25 rfl (lv_at hl 2 rfl) ?_
    refine kcS0 (st1 := [.int (mX5_only p1), .int k_t_keptSlots, .ref a_t]) X hA (c_X5_only l G cI cZ cE p1 _ rfl) (va_cwS 1 hts gX10_keep_X5_only rfl rfl rfl hd_X5_only ⟨Nat.le_of_ble_eq_true rfl, Nat.le_of_ble_eq_true rfl⟩) hl.1 dX10_keep_26 hP hD hS [] rfl rfl rfl [.int k_t_keptSlots, .ref a_t] rfl (Nat.le_of_ble_eq_true rfl) rfl ⟨Nat.zero_le _, Nat.zero_le _⟩ (fun H locs hP hD hS => ?_)
    refine lv_ior hx hb dX10_keep_29 ?_
    refine va_put (D := G) (ci := 7) (v := .int (k_t_keptSlots ||| (mX5_only p1))) (ty := .int) (C := RX10) (T := TX10) (N := 13) hx hb hts i_X10 tyX10 tyX10_ok nmX10 hown hK hP hD hS 0 rfl rfl 11 (by decide) l_95 (fun _ h9 => h9) rfl (by decide +kernel) rfl rfl (Nat.le_of_ble_eq_true rfl) dX10_keep_30 (fun H locs hP hD hS => ?_)
    have hP : va_P G vwCl [(a_t, .inr (7, [.ref a_t_text, .ref a_t_edges, .ref a_t_trial, .ref a_t_acts, .ref a_t_slots, .ref a_t_seen, .ref a_t_covers, .ref a_t_trialCovers, .ref a_t_walk, .ref a_t_least, .ref a_t_told, .int (k_t_keptSlots ||| (mX5_only p1)), .long k_t_theSeed])), (a_t_edges, .inr (2, [.ref a_t_edges_row, .int k_t_edges_knots, .int k_t_edges_nextStamp])), (a_t_edges_row, .inr (3, [.ref a_t_edges_row_items, .int k_t_edges_row_size])), (a_t_edges_row_items, .inl (cI, 24, .inl f_t_edges_row_items)), (a_t_slots, .inl (cE, 2, .inr (.inr (.inr (.inr (kS2 a_t_slots_0 a_t_slots_1)))))), (a_t_slots_0, .inr (2, [.ref a_t_slots_0_row, .int k_t_slots_0_knots, .int k_t_slots_0_nextStamp])), (a_t_slots_0_row, .inr (3, [.ref a_t_slots_0_row_items, .int k_t_slots_0_row_size])), (a_t_slots_0_row_items, .inl (cI, 24, .inl f_t_slots_0_row_items)), (a_t_slots_1, .inr (2, [.ref a_t_slots_1_row, .int r17.1, .int r17.2.1])), (a_t_slots_1_row, .inr (3, [.ref a_t_slots_1_row_items, .int r17.2.2.1])), (a_t_slots_1_row_items, .inl (cI, 24, .inl r17.2.2.2))] H := hP
    have hD : va_D A [(a_t, .inr (7, [.ref a_t_text, .ref a_t_edges, .ref a_t_trial, .ref a_t_acts, .ref a_t_slots, .ref a_t_seen, .ref a_t_covers, .ref a_t_trialCovers, .ref a_t_walk, .ref a_t_least, .ref a_t_told, .int (k_t_keptSlots ||| (mX5_only p1)), .long k_t_theSeed])), (a_t_edges, .inr (2, [.ref a_t_edges_row, .int k_t_edges_knots, .int k_t_edges_nextStamp])), (a_t_edges_row, .inr (3, [.ref a_t_edges_row_items, .int k_t_edges_row_size])), (a_t_edges_row_items, .inl (cI, 24, .inl f_t_edges_row_items)), (a_t_slots, .inl (cE, 2, .inr (.inr (.inr (.inr (kS2 a_t_slots_0 a_t_slots_1)))))), (a_t_slots_0, .inr (2, [.ref a_t_slots_0_row, .int k_t_slots_0_knots, .int k_t_slots_0_nextStamp])), (a_t_slots_0_row, .inr (3, [.ref a_t_slots_0_row_items, .int k_t_slots_0_row_size])), (a_t_slots_0_row_items, .inl (cI, 24, .inl f_t_slots_0_row_items)), (a_t_slots_1, .inr (2, [.ref a_t_slots_1_row, .int r17.1, .int r17.2.1])), (a_t_slots_1_row, .inr (3, [.ref a_t_slots_1_row_items, .int r17.2.2.1])), (a_t_slots_1_row_items, .inl (cI, 24, .inl r17.2.2.2))] := hD
    refine lv_aload_n hx hb dX10_keep_33 rfl (lv_at hl 0 rfl) ?_
    refine kcV0 (st1 := [.int (mX3_size r17.2.2.1)]) X hA (c_X3_size l G cI cZ cE a_t_slots_1 a_t_slots_1_row a_t_slots_1_row_items r17.1 r17.2.1 r17.2.2.1 _ rfl) (cwV 0 hts gX10_keep_X3_size rfl rfl rfl hd_X3_size ⟨Nat.le_of_ble_eq_true rfl, Nat.le_of_ble_eq_true rfl⟩) 8 2 rfl rfl hl.1 dX10_keep_34 hP hD hS [8, 9] rfl rfl rfl [] rfl (Nat.le_of_ble_eq_true rfl) rfl ⟨Nat.zero_le _, Nat.zero_le _⟩ (fun H locs hP hD hS => ?_)
    have hm := Option.some.inj hm
    subst hm
    exact k_iret (v := (mX3_size r17.2.2.1)) X rfl dX10_keep_37 hP hD hS
  rw [if_neg c2_1] at hm
  refine W.eq (g2 := F0 m 5 ls [.null]) (by rw [slot_none a_t_slots_0 a_t_slots_1 c2_0 c2_1]; rfl) ?_
  refine lv_astore_nN (lv' := [(2, .null), (0, .ref a_t), (1, .int p1)]) hx hb dX10_keep_5 rfl hl (by decide) rfl (fun ls hl => ?_)
  refine lv_aload_nN hx hb dX10_keep_6 rfl (lv_at hl 0 rfl) ?_
  refine lv_ifnonnullN hx hb dX10_keep_7 ?_
  refine lv_iconst (v := (-1)) hx hb dX10_keep_10 (by decide) ?_
  have hm := Option.some.inj hm
  subst hm
  exact k_iret (v := (-1)) X rfl dX10_keep_11 hP hD hS
theorem hd_X10_keep : yX10_keep.cls = RX10 ∧ yX10_keep.cls ≠ "java/lang/invoke/MethodHandle" ∧ yX10_keep.cls ≠ "java/lang/invoke/VarHandle" ∧ (parseMethodDescriptor yX10_keep.desc).map (fun d => d.parameters.length) = some 1 := by decide +kernel
/-! CoverOrder again -/
set_option maxRecDepth 100000 in
set_option maxHeartbeats 4000000 in
theorem c_X10_again (l : Launch) (G : va_G) (cI cZ cE : ClassId) (a_t a_t_text a_t_edges a_t_trial a_t_acts a_t_slots a_t_seen a_t_covers a_t_trialCovers a_t_walk a_t_least a_t_told a_t_edges_row a_t_edges_row_items a_t_acts_deleted a_t_acts_places a_t_acts_deleted_items a_t_acts_places_items a_t_slots_0 a_t_slots_1 a_t_slots_0_row a_t_slots_0_row_items a_t_slots_1_row a_t_slots_1_row_items : Nat) (k_t_keptSlots : Int32) (k_t_theSeed : Int64) (k_t_edges_knots : Int32) (k_t_edges_nextStamp : Int32) (k_t_edges_row_size : Int32) (f_t_edges_row_items : Nat → Int32) (k_t_acts_deleted_size : Int32) (k_t_acts_places_size : Int32) (k_t_slots_0_knots : Int32) (k_t_slots_0_nextStamp : Int32) (k_t_slots_0_row_size : Int32) (f_t_slots_0_row_items : Nat → Int32) (k_t_slots_1_knots : Int32) (k_t_slots_1_nextStamp : Int32) (k_t_slots_1_row_size : Int32) (f_t_slots_1_row_items : Nat → Int32) (p1 : Int32) (R : Int32 × Int32 × Int32 × Int32 × (Nat → Int32) × Int32 × Int32) (hm : mX10_again k_t_keptSlots k_t_edges_knots k_t_edges_nextStamp k_t_edges_row_size f_t_edges_row_items k_t_acts_deleted_size k_t_acts_places_size k_t_slots_0_knots k_t_slots_0_nextStamp k_t_slots_0_row_size f_t_slots_0_row_items k_t_slots_1_knots k_t_slots_1_nextStamp k_t_slots_1_row_size f_t_slots_1_row_items p1 = some R) : kM l yX10_again wsX10_again { frames := 5, cells := 0, slots := 0, locals := 107 } G cI cZ cE [.ref a_t, .int p1] [(a_t, .inr (7, [.ref a_t_text, .ref a_t_edges, .ref a_t_trial, .ref a_t_acts, .ref a_t_slots, .ref a_t_seen, .ref a_t_covers, .ref a_t_trialCovers, .ref a_t_walk, .ref a_t_least, .ref a_t_told, .int k_t_keptSlots, .long k_t_theSeed])), (a_t_edges, .inr (2, [.ref a_t_edges_row, .int k_t_edges_knots, .int k_t_edges_nextStamp])), (a_t_edges_row, .inr (3, [.ref a_t_edges_row_items, .int k_t_edges_row_size])), (a_t_edges_row_items, .inl (cI, 24, .inl f_t_edges_row_items)), (a_t_acts, .inr (0, [.ref a_t_acts_deleted, .ref a_t_acts_places])), (a_t_acts_deleted, .inr (3, [.ref a_t_acts_deleted_items, .int k_t_acts_deleted_size])), (a_t_acts_places, .inr (3, [.ref a_t_acts_places_items, .int k_t_acts_places_size])), (a_t_slots, .inl (cE, 2, .inr (.inr (.inr (.inr (kS2 a_t_slots_0 a_t_slots_1)))))), (a_t_slots_0, .inr (2, [.ref a_t_slots_0_row, .int k_t_slots_0_knots, .int k_t_slots_0_nextStamp])), (a_t_slots_0_row, .inr (3, [.ref a_t_slots_0_row_items, .int k_t_slots_0_row_size])), (a_t_slots_0_row_items, .inl (cI, 24, .inl f_t_slots_0_row_items)), (a_t_slots_1, .inr (2, [.ref a_t_slots_1_row, .int k_t_slots_1_knots, .int k_t_slots_1_nextStamp])), (a_t_slots_1_row, .inr (3, [.ref a_t_slots_1_row_items, .int k_t_slots_1_row_size])), (a_t_slots_1_row_items, .inl (cI, 24, .inl f_t_slots_1_row_items))] [(a_t, .inr (7, [.ref a_t_text, .ref a_t_edges, .ref a_t_trial, .ref a_t_acts, .ref a_t_slots, .ref a_t_seen, .ref a_t_covers, .ref a_t_trialCovers, .ref a_t_walk, .ref a_t_least, .ref a_t_told, .int k_t_keptSlots, .long k_t_theSeed])), (a_t_edges, .inr (2, [.ref a_t_edges_row, .int R.2.1, .int R.2.2.1])), (a_t_edges_row, .inr (3, [.ref a_t_edges_row_items, .int R.2.2.2.1])), (a_t_edges_row_items, .inl (cI, 24, .inl R.2.2.2.2.1)), (a_t_acts, .inr (0, [.ref a_t_acts_deleted, .ref a_t_acts_places])), (a_t_acts_deleted, .inr (3, [.ref a_t_acts_deleted_items, .int R.2.2.2.2.2.1])), (a_t_acts_places, .inr (3, [.ref a_t_acts_places_items, .int R.2.2.2.2.2.2])), (a_t_slots, .inl (cE, 2, .inr (.inr (.inr (.inr (kS2 a_t_slots_0 a_t_slots_1)))))), (a_t_slots_0, .inr (2, [.ref a_t_slots_0_row, .int k_t_slots_0_knots, .int k_t_slots_0_nextStamp])), (a_t_slots_0_row, .inr (3, [.ref a_t_slots_0_row_items, .int k_t_slots_0_row_size])), (a_t_slots_0_row_items, .inl (cI, 24, .inl f_t_slots_0_row_items)), (a_t_slots_1, .inr (2, [.ref a_t_slots_1_row, .int k_t_slots_1_knots, .int k_t_slots_1_nextStamp])), (a_t_slots_1_row, .inr (3, [.ref a_t_slots_1_row_items, .int k_t_slots_1_row_size])), (a_t_slots_1_row_items, .inl (cI, 24, .inl f_t_slots_1_row_items))] (some (.int R.1)) := by
  refine kM_of cX10_again 3 (some .int) RX10 (by decide) rfl rfl (Nat.le_of_ble_eq_true rfl) ?_
  intro p e s m below meth c A ls X hA hP hD hS hl
  have hx := X.1.1
  have hb := X.1.2.1
  have hts := X.1.2.2.2.2
  have hown := X.1.2.2.2.1
  have hK := X.2.2.2.1
  have l_95 : (.fieldLink RX10 95 "CoverOrder" "keptSlots" "I" : Cond).before _ s = true := hts _ (List.mem_of_getElem? (i := 1) (by decide +kernel))
  have i_X10 : ∀ w ∈ u_ws RX10 TX10 13, w ∈ wsX10_again := k_in _ [65, 66, 67, 68, 69, 70, 71, 72, 73, 74, 75, 76, 77] (by decide +kernel)
  have l_19 : (.fieldLink RX10 19 "CoverOrder" "edges" "LCoverOrder$Edges;" : Cond).before _ s = true := hts _ (List.mem_of_getElem? (i := 2) (by decide +kernel))
  have l_29 : (.fieldLink RX10 29 "CoverOrder" "acts" "LCoverOrder$Acts;" : Cond).before _ s = true := hts _ (List.mem_of_getElem? (i := 3) (by decide +kernel))
  have hl : lv_has ls 3 [(0, .ref a_t), (1, .int p1)] := hl
  rw [mX10_again] at hm
  refine lv_aload_n hx hb dX10_again_0 rfl (lv_at hl 0 rfl) ?_
  refine lv_iload_n hx hb dX10_again_1 rfl (lv_at hl 1 rfl) ?_
  refine kcV0 (st1 := [va_rf (mX10_slotAt a_t_slots_0 a_t_slots_1 p1)]) X hA (c_X10_slotAt l G cI cZ cE a_t a_t_text a_t_edges a_t_trial a_t_acts a_t_slots a_t_seen a_t_covers a_t_trialCovers a_t_walk a_t_least a_t_told a_t_slots_0 a_t_slots_1 k_t_keptSlots k_t_theSeed p1 _ rfl) (cwV 1 hts gX10_again_X10_slotAt rfl rfl rfl hd_X10_slotAt ⟨Nat.le_of_ble_eq_true rfl, Nat.le_of_ble_eq_true rfl⟩) 0 7 rfl rfl hl.1 dX10_again_2 hP hD hS [0, 7] rfl rfl rfl [] rfl (Nat.le_of_ble_eq_true rfl) rfl ⟨Nat.zero_le _, Nat.zero_le _⟩ (fun H locs hP hD hS => ?_)
  rcases Classical.em (p1 = 0) with c2_0 | c2_0
  · rw [if_pos c2_0] at hm
    refine W.eq (g2 := F0 m 5 ls [.ref a_t_slots_0]) (by rw [show mX10_slotAt a_t_slots_0 a_t_slots_1 p1 = some a_t_slots_0 from by rw [c2_0]; rfl]; rfl) ?_
    refine lv_astore_n (lv' := [(2, .ref a_t_slots_0), (0, .ref a_t), (1, .int p1)]) hx hb dX10_again_5 rfl hl (by decide) rfl (fun ls hl => ?_)
    refine lv_aload_n hx hb dX10_again_6 rfl (lv_at hl 0 rfl) ?_
    refine lv_ifnonnull (tgt := 12) hx hb dX10_again_7 (by decide) ?_
    refine lv_aload_n hx hb dX10_again_12 rfl (lv_at hl 1 rfl) ?_
    refine va_get (D := G) (ci := 7) (v := .int k_t_keptSlots) (C := RX10) (T := TX10) (N := 13) hx hb hts i_X10 hown hK hP 0 rfl rfl 11 (by decide) l_95 (fun _ h9 => h9) rfl dX10_again_13 ?_
    refine lv_iload_n hx hb dX10_again_16 rfl (lv_at hl 2 rfl) ?_
    refine kcS0 (st1 := [.int (bI (mX5_isIn k_t_keptSlots p1))]) X hA (c_X5_isIn l G cI cZ cE k_t_keptSlots p1 _ rfl) (va_cwS 2 hts gX10_again_X5_isIn rfl rfl rfl hd_X5_isIn ⟨Nat.le_of_ble_eq_true rfl, Nat.le_of_ble_eq_true rfl⟩) hl.1 dX10_again_17 hP hD hS [] rfl rfl rfl [] rfl (Nat.le_of_ble_eq_true rfl) rfl ⟨Nat.zero_le _, Nat.zero_le _⟩ (fun H locs hP hD hS => ?_)
    refine lv_if_ne (tgt := 26) hx hb dX10_again_20 (by decide) (fun c20 => ?_) (fun c20 => ?_)
    · have c20 := kb1 c20
      rw [if_pos c20] at hm
      refine lv_aload_n hx hb dX10_again_26 rfl (lv_at hl 1 rfl) ?_
      refine va_get (D := G) (ci := 7) (v := .ref a_t_edges) (C := RX10) (T := TX10) (N := 13) hx hb hts i_X10 hown hK hP 0 rfl rfl 1 (by decide) l_19 (fun _ h9 => h9) rfl dX10_again_27 ?_
      refine lv_aload_n hx hb dX10_again_30 rfl (lv_at hl 0 rfl) ?_
      obtain ⟨r31, hc31, hm⟩ := kbind hm
      refine kcV (ws1 := [(a_t, .inr (7, [.ref a_t_text, .ref a_t_edges, .ref a_t_trial, .ref a_t_acts, .ref a_t_slots, .ref a_t_seen, .ref a_t_covers, .ref a_t_trialCovers, .ref a_t_walk, .ref a_t_least, .ref a_t_told, .int k_t_keptSlots, .long k_t_theSeed])), (a_t_edges, .inr (2, [.ref a_t_edges_row, .int r31.1, .int r31.2.1])), (a_t_edges_row, .inr (3, [.ref a_t_edges_row_items, .int r31.2.2.1])), (a_t_edges_row_items, .inl (cI, 24, .inl r31.2.2.2)), (a_t_acts, .inr (0, [.ref a_t_acts_deleted, .ref a_t_acts_places])), (a_t_acts_deleted, .inr (3, [.ref a_t_acts_deleted_items, .int k_t_acts_deleted_size])), (a_t_acts_places, .inr (3, [.ref a_t_acts_places_items, .int k_t_acts_places_size])), (a_t_slots, .inl (cE, 2, .inr (.inr (.inr (.inr (kS2 a_t_slots_0 a_t_slots_1)))))), (a_t_slots_0, .inr (2, [.ref a_t_slots_0_row, .int k_t_slots_0_knots, .int k_t_slots_0_nextStamp])), (a_t_slots_0_row, .inr (3, [.ref a_t_slots_0_row_items, .int k_t_slots_0_row_size])), (a_t_slots_0_row_items, .inl (cI, 24, .inl f_t_slots_0_row_items)), (a_t_slots_1, .inr (2, [.ref a_t_slots_1_row, .int k_t_slots_1_knots, .int k_t_slots_1_nextStamp])), (a_t_slots_1_row, .inr (3, [.ref a_t_slots_1_row_items, .int k_t_slots_1_row_size])), (a_t_slots_1_row_items, .inl (cI, 24, .inl f_t_slots_1_row_items))]) (st1 := []) X hA (c_X3_copy l G cI cZ cE a_t_edges a_t_edges_row a_t_edges_row_items a_t_slots_0 a_t_slots_0_row a_t_slots_0_row_items k_t_edges_knots k_t_edges_nextStamp k_t_edges_row_size f_t_edges_row_items k_t_slots_0_knots k_t_slots_0_nextStamp k_t_slots_0_row_size f_t_slots_0_row_items r31 hc31) (cwV 1 hts gX10_again_X3_copy rfl rfl rfl hd_X3_copy ⟨Nat.le_of_ble_eq_true rfl, Nat.le_of_ble_eq_true rfl⟩) 1 2 rfl rfl hl.1 dX10_again_31 hP hD hS [1, 2, 3, 8, 9, 10] rfl rfl rfl rfl rfl [] rfl (Nat.le_of_ble_eq_true rfl) rfl ⟨Nat.zero_le _, Nat.zero_le _⟩ (fun H locs hP hD hS => ?_)
      refine lv_aload_n hx hb dX10_again_34 rfl (lv_at hl 1 rfl) ?_
      refine va_get (D := G) (ci := 7) (v := .ref a_t_acts) (C := RX10) (T := TX10) (N := 13) hx hb hts i_X10 hown hK hP 0 rfl rfl 3 (by decide) l_29 (fun _ h9 => h9) rfl dX10_again_35 ?_
      refine kcV (ws1 := [(a_t, .inr (7, [.ref a_t_text, .ref a_t_edges, .ref a_t_trial, .ref a_t_acts, .ref a_t_slots, .ref a_t_seen, .ref a_t_covers, .ref a_t_trialCovers, .ref a_t_walk, .ref a_t_least, .ref a_t_told, .int k_t_keptSlots, .long k_t_theSeed])), (a_t_edges, .inr (2, [.ref a_t_edges_row, .int r31.1, .int r31.2.1])), (a_t_edges_row, .inr (3, [.ref a_t_edges_row_items, .int r31.2.2.1])), (a_t_edges_row_items, .inl (cI, 24, .inl r31.2.2.2)), (a_t_acts, .inr (0, [.ref a_t_acts_deleted, .ref a_t_acts_places])), (a_t_acts_deleted, .inr (3, [.ref a_t_acts_deleted_items, .int ((mX0_clear k_t_acts_deleted_size k_t_acts_places_size).1)])), (a_t_acts_places, .inr (3, [.ref a_t_acts_places_items, .int ((mX0_clear k_t_acts_deleted_size k_t_acts_places_size).2)])), (a_t_slots, .inl (cE, 2, .inr (.inr (.inr (.inr (kS2 a_t_slots_0 a_t_slots_1)))))), (a_t_slots_0, .inr (2, [.ref a_t_slots_0_row, .int k_t_slots_0_knots, .int k_t_slots_0_nextStamp])), (a_t_slots_0_row, .inr (3, [.ref a_t_slots_0_row_items, .int k_t_slots_0_row_size])), (a_t_slots_0_row_items, .inl (cI, 24, .inl f_t_slots_0_row_items)), (a_t_slots_1, .inr (2, [.ref a_t_slots_1_row, .int k_t_slots_1_knots, .int k_t_slots_1_nextStamp])), (a_t_slots_1_row, .inr (3, [.ref a_t_slots_1_row_items, .int k_t_slots_1_row_size])), (a_t_slots_1_row_items, .inl (cI, 24, .inl f_t_slots_1_row_items))]) (st1 := []) X hA (c_X0_clear l G cI cZ cE a_t_acts a_t_acts_deleted a_t_acts_places a_t_acts_deleted_items a_t_acts_places_items k_t_acts_deleted_size k_t_acts_places_size (mX0_clear k_t_acts_deleted_size k_t_acts_places_size) rfl) (cwV 0 hts gX10_again_X0_clear rfl rfl rfl hd_X0_clear ⟨Nat.le_of_ble_eq_true rfl, Nat.le_of_ble_eq_true rfl⟩) 4 0 rfl rfl hl.1 dX10_again_38 hP hD hS [4, 5, 6] rfl rfl rfl rfl rfl [] rfl (Nat.le_of_ble_eq_true rfl) rfl ⟨Nat.zero_le _, Nat.zero_le _⟩ (fun H locs hP hD hS => ?_)
      refine lv_aload_n hx hb dX10_again_41 rfl (lv_at hl 1 rfl) ?_
      refine va_get (D := G) (ci := 7) (v := .ref a_t_edges) (C := RX10) (T := TX10) (N := 13) hx hb hts i_X10 hown hK hP 0 rfl rfl 1 (by decide) l_19 (fun _ h9 => h9) rfl dX10_again_42 ?_
      refine kcV0 (st1 := [.int (mX3_size r31.2.2.1)]) X hA (c_X3_size l G cI cZ cE a_t_edges a_t_edges_row a_t_edges_row_items r31.1 r31.2.1 r31.2.2.1 _ rfl) (cwV 0 hts gX10_again_X3_size rfl rfl rfl hd_X3_size ⟨Nat.le_of_ble_eq_true rfl, Nat.le_of_ble_eq_true rfl⟩) 1 2 rfl rfl hl.1 dX10_again_45 hP hD hS [1, 2] rfl rfl rfl [] rfl (Nat.le_of_ble_eq_true rfl) rfl ⟨Nat.zero_le _, Nat.zero_le _⟩ (fun H locs hP hD hS => ?_)
      have hm := Option.some.inj hm
      subst hm
      exact k_iret (v := (mX3_size r31.2.2.1)) X rfl dX10_again_48 hP hD hS
    · have c20 := kb0 c20
      rw [if_neg c20] at hm
      refine lv_bipush (v := (-3)) hx hb dX10_again_23 (by decide) ?_
      have hm := Option.some.inj hm
      subst hm
      exact k_iret (v := (-3)) X rfl dX10_again_25 hP hD hS
  rw [if_neg c2_0] at hm
  rcases Classical.em (p1 = 1) with c2_1 | c2_1
  · rw [if_pos c2_1] at hm
    refine W.eq (g2 := F0 m 5 ls [.ref a_t_slots_1]) (by rw [show mX10_slotAt a_t_slots_0 a_t_slots_1 p1 = some a_t_slots_1 from by rw [c2_1]; rfl]; rfl) ?_
    refine lv_astore_n (lv' := [(2, .ref a_t_slots_1), (0, .ref a_t), (1, .int p1)]) hx hb dX10_again_5 rfl hl (by decide) rfl (fun ls hl => ?_)
    refine lv_aload_n hx hb dX10_again_6 rfl (lv_at hl 0 rfl) ?_
    refine lv_ifnonnull (tgt := 12) hx hb dX10_again_7 (by decide) ?_
    refine lv_aload_n hx hb dX10_again_12 rfl (lv_at hl 1 rfl) ?_
    refine va_get (D := G) (ci := 7) (v := .int k_t_keptSlots) (C := RX10) (T := TX10) (N := 13) hx hb hts i_X10 hown hK hP 0 rfl rfl 11 (by decide) l_95 (fun _ h9 => h9) rfl dX10_again_13 ?_
    refine lv_iload_n hx hb dX10_again_16 rfl (lv_at hl 2 rfl) ?_
    refine kcS0 (st1 := [.int (bI (mX5_isIn k_t_keptSlots p1))]) X hA (c_X5_isIn l G cI cZ cE k_t_keptSlots p1 _ rfl) (va_cwS 2 hts gX10_again_X5_isIn rfl rfl rfl hd_X5_isIn ⟨Nat.le_of_ble_eq_true rfl, Nat.le_of_ble_eq_true rfl⟩) hl.1 dX10_again_17 hP hD hS [] rfl rfl rfl [] rfl (Nat.le_of_ble_eq_true rfl) rfl ⟨Nat.zero_le _, Nat.zero_le _⟩ (fun H locs hP hD hS => ?_)
    refine lv_if_ne (tgt := 26) hx hb dX10_again_20 (by decide) (fun c20 => ?_) (fun c20 => ?_)
    · have c20 := kb1 c20
      rw [if_pos c20] at hm
      refine lv_aload_n hx hb dX10_again_26 rfl (lv_at hl 1 rfl) ?_
      refine va_get (D := G) (ci := 7) (v := .ref a_t_edges) (C := RX10) (T := TX10) (N := 13) hx hb hts i_X10 hown hK hP 0 rfl rfl 1 (by decide) l_19 (fun _ h9 => h9) rfl dX10_again_27 ?_
      refine lv_aload_n hx hb dX10_again_30 rfl (lv_at hl 0 rfl) ?_
      obtain ⟨r31, hc31, hm⟩ := kbind hm
      refine kcV (ws1 := [(a_t, .inr (7, [.ref a_t_text, .ref a_t_edges, .ref a_t_trial, .ref a_t_acts, .ref a_t_slots, .ref a_t_seen, .ref a_t_covers, .ref a_t_trialCovers, .ref a_t_walk, .ref a_t_least, .ref a_t_told, .int k_t_keptSlots, .long k_t_theSeed])), (a_t_edges, .inr (2, [.ref a_t_edges_row, .int r31.1, .int r31.2.1])), (a_t_edges_row, .inr (3, [.ref a_t_edges_row_items, .int r31.2.2.1])), (a_t_edges_row_items, .inl (cI, 24, .inl r31.2.2.2)), (a_t_acts, .inr (0, [.ref a_t_acts_deleted, .ref a_t_acts_places])), (a_t_acts_deleted, .inr (3, [.ref a_t_acts_deleted_items, .int k_t_acts_deleted_size])), (a_t_acts_places, .inr (3, [.ref a_t_acts_places_items, .int k_t_acts_places_size])), (a_t_slots, .inl (cE, 2, .inr (.inr (.inr (.inr (kS2 a_t_slots_0 a_t_slots_1)))))), (a_t_slots_0, .inr (2, [.ref a_t_slots_0_row, .int k_t_slots_0_knots, .int k_t_slots_0_nextStamp])), (a_t_slots_0_row, .inr (3, [.ref a_t_slots_0_row_items, .int k_t_slots_0_row_size])), (a_t_slots_0_row_items, .inl (cI, 24, .inl f_t_slots_0_row_items)), (a_t_slots_1, .inr (2, [.ref a_t_slots_1_row, .int k_t_slots_1_knots, .int k_t_slots_1_nextStamp])), (a_t_slots_1_row, .inr (3, [.ref a_t_slots_1_row_items, .int k_t_slots_1_row_size])), (a_t_slots_1_row_items, .inl (cI, 24, .inl f_t_slots_1_row_items))]) (st1 := []) X hA (c_X3_copy l G cI cZ cE a_t_edges a_t_edges_row a_t_edges_row_items a_t_slots_1 a_t_slots_1_row a_t_slots_1_row_items k_t_edges_knots k_t_edges_nextStamp k_t_edges_row_size f_t_edges_row_items k_t_slots_1_knots k_t_slots_1_nextStamp k_t_slots_1_row_size f_t_slots_1_row_items r31 hc31) (cwV 1 hts gX10_again_X3_copy rfl rfl rfl hd_X3_copy ⟨Nat.le_of_ble_eq_true rfl, Nat.le_of_ble_eq_true rfl⟩) 1 2 rfl rfl hl.1 dX10_again_31 hP hD hS [1, 2, 3, 11, 12, 13] rfl rfl rfl rfl rfl [] rfl (Nat.le_of_ble_eq_true rfl) rfl ⟨Nat.zero_le _, Nat.zero_le _⟩ (fun H locs hP hD hS => ?_)
      refine lv_aload_n hx hb dX10_again_34 rfl (lv_at hl 1 rfl) ?_
      refine va_get (D := G) (ci := 7) (v := .ref a_t_acts) (C := RX10) (T := TX10) (N := 13) hx hb hts i_X10 hown hK hP 0 rfl rfl 3 (by decide) l_29 (fun _ h9 => h9) rfl dX10_again_35 ?_
      refine kcV (ws1 := [(a_t, .inr (7, [.ref a_t_text, .ref a_t_edges, .ref a_t_trial, .ref a_t_acts, .ref a_t_slots, .ref a_t_seen, .ref a_t_covers, .ref a_t_trialCovers, .ref a_t_walk, .ref a_t_least, .ref a_t_told, .int k_t_keptSlots, .long k_t_theSeed])), (a_t_edges, .inr (2, [.ref a_t_edges_row, .int r31.1, .int r31.2.1])), (a_t_edges_row, .inr (3, [.ref a_t_edges_row_items, .int r31.2.2.1])), (a_t_edges_row_items, .inl (cI, 24, .inl r31.2.2.2)), (a_t_acts, .inr (0, [.ref a_t_acts_deleted, .ref a_t_acts_places])), (a_t_acts_deleted, .inr (3, [.ref a_t_acts_deleted_items, .int ((mX0_clear k_t_acts_deleted_size k_t_acts_places_size).1)])), (a_t_acts_places, .inr (3, [.ref a_t_acts_places_items, .int ((mX0_clear k_t_acts_deleted_size k_t_acts_places_size).2)])), (a_t_slots, .inl (cE, 2, .inr (.inr (.inr (.inr (kS2 a_t_slots_0 a_t_slots_1)))))), (a_t_slots_0, .inr (2, [.ref a_t_slots_0_row, .int k_t_slots_0_knots, .int k_t_slots_0_nextStamp])), (a_t_slots_0_row, .inr (3, [.ref a_t_slots_0_row_items, .int k_t_slots_0_row_size])), (a_t_slots_0_row_items, .inl (cI, 24, .inl f_t_slots_0_row_items)), (a_t_slots_1, .inr (2, [.ref a_t_slots_1_row, .int k_t_slots_1_knots, .int k_t_slots_1_nextStamp])), (a_t_slots_1_row, .inr (3, [.ref a_t_slots_1_row_items, .int k_t_slots_1_row_size])), (a_t_slots_1_row_items, .inl (cI, 24, .inl f_t_slots_1_row_items))]) (st1 := []) X hA (c_X0_clear l G cI cZ cE a_t_acts a_t_acts_deleted a_t_acts_places a_t_acts_deleted_items a_t_acts_places_items k_t_acts_deleted_size k_t_acts_places_size (mX0_clear k_t_acts_deleted_size k_t_acts_places_size) rfl) (cwV 0 hts gX10_again_X0_clear rfl rfl rfl hd_X0_clear ⟨Nat.le_of_ble_eq_true rfl, Nat.le_of_ble_eq_true rfl⟩) 4 0 rfl rfl hl.1 dX10_again_38 hP hD hS [4, 5, 6] rfl rfl rfl rfl rfl [] rfl (Nat.le_of_ble_eq_true rfl) rfl ⟨Nat.zero_le _, Nat.zero_le _⟩ (fun H locs hP hD hS => ?_)
      refine lv_aload_n hx hb dX10_again_41 rfl (lv_at hl 1 rfl) ?_
      refine va_get (D := G) (ci := 7) (v := .ref a_t_edges) (C := RX10) (T := TX10) (N := 13) hx hb hts i_X10 hown hK hP 0 rfl rfl 1 (by decide) l_19 (fun _ h9 => h9) rfl dX10_again_42 ?_
      refine kcV0 (st1 := [.int (mX3_size r31.2.2.1)]) X hA (c_X3_size l G cI cZ cE a_t_edges a_t_edges_row a_t_edges_row_items r31.1 r31.2.1 r31.2.2.1 _ rfl) (cwV 0 hts gX10_again_X3_size rfl rfl rfl hd_X3_size ⟨Nat.le_of_ble_eq_true rfl, Nat.le_of_ble_eq_true rfl⟩) 1 2 rfl rfl hl.1 dX10_again_45 hP hD hS [1, 2] rfl rfl rfl [] rfl (Nat.le_of_ble_eq_true rfl) rfl ⟨Nat.zero_le _, Nat.zero_le _⟩ (fun H locs hP hD hS => ?_)
      have hm := Option.some.inj hm
      subst hm
      exact k_iret (v := (mX3_size r31.2.2.1)) X rfl dX10_again_48 hP hD hS
    · have c20 := kb0 c20
      rw [if_neg c20] at hm
      refine lv_bipush (v := (-3)) hx hb dX10_again_23 (by decide) ?_
      have hm := Option.some.inj hm
      subst hm
      exact k_iret (v := (-3)) X rfl dX10_again_25 hP hD hS
  rw [if_neg c2_1] at hm
  refine W.eq (g2 := F0 m 5 ls [.null]) (by rw [slot_none a_t_slots_0 a_t_slots_1 c2_0 c2_1]; rfl) ?_
  refine lv_astore_nN (lv' := [(2, .null), (0, .ref a_t), (1, .int p1)]) hx hb dX10_again_5 rfl hl (by decide) rfl (fun ls hl => ?_)
  refine lv_aload_nN hx hb dX10_again_6 rfl (lv_at hl 0 rfl) ?_
  refine lv_ifnonnullN hx hb dX10_again_7 ?_
  refine lv_iconst (v := (-1)) hx hb dX10_again_10 (by decide) ?_
  have hm := Option.some.inj hm
  subst hm
  exact k_iret (v := (-1)) X rfl dX10_again_11 hP hD hS
theorem hd_X10_again : yX10_again.cls = RX10 ∧ yX10_again.cls ≠ "java/lang/invoke/MethodHandle" ∧ yX10_again.cls ≠ "java/lang/invoke/VarHandle" ∧ (parseMethodDescriptor yX10_again.desc).map (fun d => d.parameters.length) = some 1 := by decide +kernel
/-! CoverOrder countCovers -/
set_option maxRecDepth 100000 in
set_option maxHeartbeats 4000000 in
theorem c_X10_countCovers (l : Launch) (G : va_G) (cI cZ cE : ClassId) (a_t a_t_text a_t_edges a_t_trial a_t_acts a_t_slots a_t_seen a_t_covers a_t_trialCovers a_t_walk a_t_least a_t_told a_t_edges_row a_t_edges_row_items : Nat) (k_t_keptSlots : Int32) (k_t_theSeed : Int64) (k_t_edges_knots : Int32) (k_t_edges_nextStamp : Int32) (k_t_edges_row_size : Int32) (f_t_edges_row_items : Nat → Int32) (k_t_covers_grid : Int64) (k_t_covers_covered : Int64) (k_t_covers_coverers : Int64) (k_t_covers_reached : Int32) (p1 : Int32) (R : Int32 × Int64 × Int64 × Int64 × Int32) (hm : mX10_countCovers k_t_edges_row_size f_t_edges_row_items k_t_covers_grid k_t_covers_covered k_t_covers_coverers k_t_covers_reached p1 = some R) : kM l yX10_countCovers wsX10_countCovers { frames := 5, cells := 0, slots := 0, locals := 114 } G cI cZ cE [.ref a_t, .int p1] [(a_t, .inr (7, [.ref a_t_text, .ref a_t_edges, .ref a_t_trial, .ref a_t_acts, .ref a_t_slots, .ref a_t_seen, .ref a_t_covers, .ref a_t_trialCovers, .ref a_t_walk, .ref a_t_least, .ref a_t_told, .int k_t_keptSlots, .long k_t_theSeed])), (a_t_edges, .inr (2, [.ref a_t_edges_row, .int k_t_edges_knots, .int k_t_edges_nextStamp])), (a_t_edges_row, .inr (3, [.ref a_t_edges_row_items, .int k_t_edges_row_size])), (a_t_edges_row_items, .inl (cI, 24, .inl f_t_edges_row_items)), (a_t_covers, .inr (1, [.long k_t_covers_grid, .long k_t_covers_covered, .long k_t_covers_coverers, .int k_t_covers_reached]))] [(a_t, .inr (7, [.ref a_t_text, .ref a_t_edges, .ref a_t_trial, .ref a_t_acts, .ref a_t_slots, .ref a_t_seen, .ref a_t_covers, .ref a_t_trialCovers, .ref a_t_walk, .ref a_t_least, .ref a_t_told, .int k_t_keptSlots, .long k_t_theSeed])), (a_t_edges, .inr (2, [.ref a_t_edges_row, .int k_t_edges_knots, .int k_t_edges_nextStamp])), (a_t_edges_row, .inr (3, [.ref a_t_edges_row_items, .int k_t_edges_row_size])), (a_t_edges_row_items, .inl (cI, 24, .inl f_t_edges_row_items)), (a_t_covers, .inr (1, [.long R.2.1, .long R.2.2.1, .long R.2.2.2.1, .int R.2.2.2.2]))] (some (.int R.1)) := by
  refine kM_of cX10_countCovers 2 (some .int) RX10 (by decide) rfl rfl (Nat.le_of_ble_eq_true rfl) ?_
  intro p e s m below meth c A ls X hA hP hD hS hl
  have hx := X.1.1
  have hb := X.1.2.1
  have hts := X.1.2.2.2.2
  have hown := X.1.2.2.2.1
  have hK := X.2.2.2.1
  have l_49 : (.fieldLink RX10 49 "CoverOrder" "covers" "LCoverOrder$Covers;" : Cond).before _ s = true := hts _ (List.mem_of_getElem? (i := 1) (by decide +kernel))
  have i_X10 : ∀ w ∈ u_ws RX10 TX10 13, w ∈ wsX10_countCovers := k_in _ [112, 113, 114, 115, 116, 117, 118, 119, 120, 121, 122, 123, 124] (by decide +kernel)
  have l_19 : (.fieldLink RX10 19 "CoverOrder" "edges" "LCoverOrder$Edges;" : Cond).before _ s = true := hts _ (List.mem_of_getElem? (i := 2) (by decide +kernel))
  have l_303 := va_Nw.use (A := ([.ref a_t, .int p1] : List Value).toArray) rfl (X.2.2.2.2.1 _ (List.mem_of_getElem? (i := 3) rfl))
  have i_X2 : ∀ w ∈ u_ws RX2 TX2 4, w ∈ wsX10_countCovers := k_in _ [125, 126, 127, 128] (by decide +kernel)
  have hl : lv_has ls 2 [(0, .ref a_t), (1, .int p1)] := hl
  rw [mX10_countCovers] at hm
  refine lv_aload_n hx hb dX10_countCovers_0 rfl (lv_at hl 0 rfl) ?_
  obtain ⟨r1, hc1, hm⟩ := kbind hm
  refine kcV (ws1 := [(a_t, .inr (7, [.ref a_t_text, .ref a_t_edges, .ref a_t_trial, .ref a_t_acts, .ref a_t_slots, .ref a_t_seen, .ref a_t_covers, .ref a_t_trialCovers, .ref a_t_walk, .ref a_t_least, .ref a_t_told, .int k_t_keptSlots, .long k_t_theSeed])), (a_t_edges, .inr (2, [.ref a_t_edges_row, .int k_t_edges_knots, .int k_t_edges_nextStamp])), (a_t_edges_row, .inr (3, [.ref a_t_edges_row_items, .int k_t_edges_row_size])), (a_t_edges_row_items, .inl (cI, 24, .inl f_t_edges_row_items)), (a_t_covers, .inr (1, [.long r1.1, .long r1.2.1, .long r1.2.2.1, .int r1.2.2.2]))]) (st1 := []) X hA (c_X10_learnCovers l G cI cZ cE a_t a_t_text a_t_edges a_t_trial a_t_acts a_t_slots a_t_seen a_t_covers a_t_trialCovers a_t_walk a_t_least a_t_told a_t_edges_row a_t_edges_row_items k_t_keptSlots k_t_theSeed k_t_edges_knots k_t_edges_nextStamp k_t_edges_row_size f_t_edges_row_items k_t_covers_grid k_t_covers_covered k_t_covers_coverers k_t_covers_reached r1 hc1) (cwV 0 hts gX10_countCovers_X10_learnCovers rfl rfl rfl hd_X10_learnCovers ⟨Nat.le_of_ble_eq_true rfl, Nat.le_of_ble_eq_true rfl⟩) 0 7 rfl rfl hl.1 dX10_countCovers_1 hP hD hS [0, 1, 2, 3, 4] rfl rfl rfl rfl rfl [] rfl (Nat.le_of_ble_eq_true rfl) rfl ⟨Nat.zero_le _, Nat.zero_le _⟩ (fun H locs hP hD hS => ?_)
  refine lv_iload_n hx hb dX10_countCovers_4 rfl (lv_at hl 1 rfl) ?_
  rcases Classical.em (p1 = 3) with c5_0 | c5_0
  · rw [if_pos c5_0] at hm
    refine lv_tableIn (off := 35) (tgt := 40) hx hb dX10_countCovers_5 (by rw [c5_0]; decide) (by rw [c5_0]; decide) (by rw [c5_0]; decide) (by decide) ?_
    refine lv_aload_n hx hb dX10_countCovers_40 rfl (lv_at hl 0 rfl) ?_
    refine va_get (D := G) (ci := 7) (v := .ref a_t_covers) (C := RX10) (T := TX10) (N := 13) hx hb hts i_X10 hown hK hP 0 rfl rfl 6 (by decide) l_49 (fun _ h9 => h9) rfl dX10_countCovers_41 ?_
    refine kcV0 (st1 := [.int (mX2_reachedCount r1.2.2.2)]) X hA (c_X2_reachedCount l G cI cZ cE a_t_covers r1.1 r1.2.1 r1.2.2.1 r1.2.2.2 _ rfl) (cwV 0 hts gX10_countCovers_X2_reachedCount rfl rfl rfl hd_X2_reachedCount ⟨Nat.le_of_ble_eq_true rfl, Nat.le_of_ble_eq_true rfl⟩) 4 1 rfl rfl hl.1 dX10_countCovers_44 hP hD hS [4] rfl rfl rfl [] rfl (Nat.le_of_ble_eq_true rfl) rfl ⟨Nat.zero_le _, Nat.zero_le _⟩ (fun H locs hP hD hS => ?_)
    have hm := Option.some.inj hm
    subst hm
    exact k_iret (v := (mX2_reachedCount r1.2.2.2)) X rfl dX10_countCovers_47 hP hD hS
  rw [if_neg c5_0] at hm
  rcases Classical.em (p1 = 4) with c5_1 | c5_1
  · rw [if_pos c5_1] at hm
    refine lv_tableIn (off := 43) (tgt := 48) hx hb dX10_countCovers_5 (by rw [c5_1]; decide) (by rw [c5_1]; decide) (by rw [c5_1]; decide) (by decide) ?_
    refine lv_aload_n hx hb dX10_countCovers_48 rfl (lv_at hl 0 rfl) ?_
    refine va_get (D := G) (ci := 7) (v := .ref a_t_covers) (C := RX10) (T := TX10) (N := 13) hx hb hts i_X10 hown hK hP 0 rfl rfl 6 (by decide) l_49 (fun _ h9 => h9) rfl dX10_countCovers_49 ?_
    obtain ⟨r52, hc52, hm⟩ := kbind hm
    refine kcV0 (st1 := [.int r52]) X hA (c_X2_depthSum l G cI cZ cE a_t_covers r1.1 r1.2.1 r1.2.2.1 r1.2.2.2 r52 hc52) (cwV 0 hts gX10_countCovers_X2_depthSum rfl rfl rfl hd_X2_depthSum ⟨Nat.le_of_ble_eq_true rfl, Nat.le_of_ble_eq_true rfl⟩) 4 1 rfl rfl hl.1 dX10_countCovers_52 hP hD hS [4] rfl rfl rfl [] rfl (Nat.le_of_ble_eq_true rfl) rfl ⟨Nat.zero_le _, Nat.zero_le _⟩ (fun H locs hP hD hS => ?_)
    have hm := Option.some.inj hm
    subst hm
    exact k_iret (v := r52) X rfl dX10_countCovers_55 hP hD hS
  rw [if_neg c5_1] at hm
  rcases Classical.em (p1 = 5) with c5_2 | c5_2
  · rw [if_pos c5_2] at hm
    refine lv_tableIn (off := 51) (tgt := 56) hx hb dX10_countCovers_5 (by rw [c5_2]; decide) (by rw [c5_2]; decide) (by rw [c5_2]; decide) (by decide) ?_
    refine lv_aload_n hx hb dX10_countCovers_56 rfl (lv_at hl 0 rfl) ?_
    refine va_get (D := G) (ci := 7) (v := .ref a_t_covers) (C := RX10) (T := TX10) (N := 13) hx hb hts i_X10 hown hK hP 0 rfl rfl 6 (by decide) l_49 (fun _ h9 => h9) rfl dX10_countCovers_57 ?_
    obtain ⟨r60, hc60, hm⟩ := kbind hm
    refine kcV0 (st1 := [.int r60]) X hA (c_X2_greatestDepth l G cI cZ cE a_t_covers r1.1 r1.2.1 r1.2.2.1 r1.2.2.2 r60 hc60) (cwV 0 hts gX10_countCovers_X2_greatestDepth rfl rfl rfl hd_X2_greatestDepth ⟨Nat.le_of_ble_eq_true rfl, Nat.le_of_ble_eq_true rfl⟩) 4 1 rfl rfl hl.1 dX10_countCovers_60 hP hD hS [4] rfl rfl rfl [] rfl (Nat.le_of_ble_eq_true rfl) rfl ⟨Nat.zero_le _, Nat.zero_le _⟩ (fun H locs hP hD hS => ?_)
    have hm := Option.some.inj hm
    subst hm
    exact k_iret (v := r60) X rfl dX10_countCovers_63 hP hD hS
  rw [if_neg c5_2] at hm
  rcases Classical.em (p1 = 7) with c5_4 | c5_4
  · rw [if_pos c5_4] at hm
    refine lv_tableIn (off := 59) (tgt := 64) hx hb dX10_countCovers_5 (by rw [c5_4]; decide) (by rw [c5_4]; decide) (by rw [c5_4]; decide) (by decide) ?_
    refine lv_aload_n hx hb dX10_countCovers_64 rfl (lv_at hl 0 rfl) ?_
    refine va_get (D := G) (ci := 7) (v := .ref a_t_edges) (C := RX10) (T := TX10) (N := 13) hx hb hts i_X10 hown hK hP 0 rfl rfl 1 (by decide) l_19 (fun _ h9 => h9) rfl dX10_countCovers_65 ?_
    refine lv_aload_n hx hb dX10_countCovers_68 rfl (lv_at hl 0 rfl) ?_
    refine va_get (D := G) (ci := 7) (v := .ref a_t_covers) (C := RX10) (T := TX10) (N := 13) hx hb hts i_X10 hown hK hP 0 rfl rfl 6 (by decide) l_49 (fun _ h9 => h9) rfl dX10_countCovers_69 ?_
    refine va_getN (D := G) (ci := 1) (v := .int r1.2.2.2) (C := RX2) (T := TX2) (N := 4) hx hb hts i_X2 hown hK hP 4 rfl rfl 3 (by decide) l_303 (fun _ h9 => h9) rfl dX10_countCovers_72 ?_
    obtain ⟨r75, hc75, hm⟩ := kbind hm
    refine kcV0 (st1 := [.int r75]) X hA (c_X3_countBetween l G cI cZ cE a_t_edges a_t_edges_row a_t_edges_row_items k_t_edges_knots k_t_edges_nextStamp k_t_edges_row_size f_t_edges_row_items r1.2.2.2 r75 hc75) (cwV 1 hts gX10_countCovers_X3_countBetween rfl rfl rfl hd_X3_countBetween ⟨Nat.le_of_ble_eq_true rfl, Nat.le_of_ble_eq_true rfl⟩) 1 2 rfl rfl hl.1 dX10_countCovers_75 hP hD hS [1, 2, 3] rfl rfl rfl [] rfl (Nat.le_of_ble_eq_true rfl) rfl ⟨Nat.zero_le _, Nat.zero_le _⟩ (fun H locs hP hD hS => ?_)
    have hm := Option.some.inj hm
    subst hm
    exact k_iret (v := r75) X rfl dX10_countCovers_78 hP hD hS
  rw [if_neg c5_4] at hm
  refine k_tableDef (tgt := 79) hx hb dX10_countCovers_5 (by
    have z0 : Int32.toInt p1 ≠ 3 := fun h => c5_0 (Int32.toInt_inj.mp (h.trans (by decide)))
    have z1 : Int32.toInt p1 ≠ 4 := fun h => c5_1 (Int32.toInt_inj.mp (h.trans (by decide)))
    have z2 : Int32.toInt p1 ≠ 5 := fun h => c5_2 (Int32.toInt_inj.mp (h.trans (by decide)))
    by_cases z3 : Int32.toInt p1 = 6
    · exact Or.inr (Or.inr ⟨by omega, by omega, by rw [z3]; rfl⟩)
    have z4 : Int32.toInt p1 ≠ 7 := fun h => c5_4 (Int32.toInt_inj.mp (h.trans (by decide)))
    rcases (show Int32.toInt p1 < 3 ∨ 7 < Int32.toInt p1 by omega) with h | h
    · exact Or.inl h
    · exact Or.inr (Or.inl h)) (by decide) ?_
  refine lv_bipush (v := (-2)) hx hb dX10_countCovers_79 (by decide) ?_
  have hm := Option.some.inj hm
  subst hm
  exact k_iret (v := (-2)) X rfl dX10_countCovers_81 hP hD hS
theorem hd_X10_countCovers : yX10_countCovers.cls = RX10 ∧ yX10_countCovers.cls ≠ "java/lang/invoke/MethodHandle" ∧ yX10_countCovers.cls ≠ "java/lang/invoke/VarHandle" ∧ (parseMethodDescriptor yX10_countCovers.desc).map (fun d => d.parameters.length) = some 1 := by decide +kernel
/-! CoverOrder count -/
set_option maxRecDepth 100000 in
set_option maxHeartbeats 4000000 in
theorem c_X10_count (l : Launch) (G : va_G) (cI cZ cE : ClassId) (a_t a_t_text a_t_edges a_t_trial a_t_acts a_t_slots a_t_seen a_t_covers a_t_trialCovers a_t_walk a_t_least a_t_told a_t_text_letters a_t_text_letters_items a_t_edges_row a_t_edges_row_items a_t_acts_deleted a_t_acts_places a_t_acts_places_items a_t_seen_items : Nat) (k_t_keptSlots : Int32) (k_t_theSeed : Int64) (k_t_text_letters_size : Int32) (k_t_edges_knots : Int32) (k_t_edges_nextStamp : Int32) (k_t_edges_row_size : Int32) (f_t_edges_row_items : Nat → Int32) (k_t_acts_places_size : Int32) (k_t_seen_size : Int32) (k_t_covers_grid : Int64) (k_t_covers_covered : Int64) (k_t_covers_coverers : Int64) (k_t_covers_reached : Int32) (p1 : Int32) (R : Int32 × Int64 × Int64 × Int64 × Int32) (hm : mX10_count k_t_text_letters_size k_t_edges_knots k_t_edges_nextStamp k_t_edges_row_size f_t_edges_row_items k_t_acts_places_size k_t_seen_size k_t_covers_grid k_t_covers_covered k_t_covers_coverers k_t_covers_reached p1 = some R) : kM l yX10_count wsX10_count { frames := 6, cells := 0, slots := 0, locals := 135 } G cI cZ cE [.ref a_t, .int p1] [(a_t, .inr (7, [.ref a_t_text, .ref a_t_edges, .ref a_t_trial, .ref a_t_acts, .ref a_t_slots, .ref a_t_seen, .ref a_t_covers, .ref a_t_trialCovers, .ref a_t_walk, .ref a_t_least, .ref a_t_told, .int k_t_keptSlots, .long k_t_theSeed])), (a_t_text, .inr (5, [.ref a_t_text_letters])), (a_t_text_letters, .inr (3, [.ref a_t_text_letters_items, .int k_t_text_letters_size])), (a_t_edges, .inr (2, [.ref a_t_edges_row, .int k_t_edges_knots, .int k_t_edges_nextStamp])), (a_t_edges_row, .inr (3, [.ref a_t_edges_row_items, .int k_t_edges_row_size])), (a_t_edges_row_items, .inl (cI, 24, .inl f_t_edges_row_items)), (a_t_acts, .inr (0, [.ref a_t_acts_deleted, .ref a_t_acts_places])), (a_t_acts_places, .inr (3, [.ref a_t_acts_places_items, .int k_t_acts_places_size])), (a_t_seen, .inr (3, [.ref a_t_seen_items, .int k_t_seen_size])), (a_t_covers, .inr (1, [.long k_t_covers_grid, .long k_t_covers_covered, .long k_t_covers_coverers, .int k_t_covers_reached]))] [(a_t, .inr (7, [.ref a_t_text, .ref a_t_edges, .ref a_t_trial, .ref a_t_acts, .ref a_t_slots, .ref a_t_seen, .ref a_t_covers, .ref a_t_trialCovers, .ref a_t_walk, .ref a_t_least, .ref a_t_told, .int k_t_keptSlots, .long k_t_theSeed])), (a_t_text, .inr (5, [.ref a_t_text_letters])), (a_t_text_letters, .inr (3, [.ref a_t_text_letters_items, .int k_t_text_letters_size])), (a_t_edges, .inr (2, [.ref a_t_edges_row, .int k_t_edges_knots, .int k_t_edges_nextStamp])), (a_t_edges_row, .inr (3, [.ref a_t_edges_row_items, .int k_t_edges_row_size])), (a_t_edges_row_items, .inl (cI, 24, .inl f_t_edges_row_items)), (a_t_acts, .inr (0, [.ref a_t_acts_deleted, .ref a_t_acts_places])), (a_t_acts_places, .inr (3, [.ref a_t_acts_places_items, .int k_t_acts_places_size])), (a_t_seen, .inr (3, [.ref a_t_seen_items, .int k_t_seen_size])), (a_t_covers, .inr (1, [.long R.2.1, .long R.2.2.1, .long R.2.2.2.1, .int R.2.2.2.2]))] (some (.int R.1)) := by
  refine kM_of cX10_count 2 (some .int) RX10 (by decide) rfl rfl (Nat.le_of_ble_eq_true rfl) ?_
  intro p e s m below meth c A ls X hA hP hD hS hl
  have hx := X.1.1
  have hb := X.1.2.1
  have hts := X.1.2.2.2.2
  have hown := X.1.2.2.2.1
  have hK := X.2.2.2.1
  have l_10 : (.fieldLink RX10 10 "CoverOrder" "text" "LCoverOrder$Text;" : Cond).before _ s = true := hts _ (List.mem_of_getElem? (i := 1) (by decide +kernel))
  have i_X10 : ∀ w ∈ u_ws RX10 TX10 13, w ∈ wsX10_count := k_in _ [138, 139, 140, 141, 142, 143, 144, 145, 146, 147, 148, 149, 150] (by decide +kernel)
  have l_19 : (.fieldLink RX10 19 "CoverOrder" "edges" "LCoverOrder$Edges;" : Cond).before _ s = true := hts _ (List.mem_of_getElem? (i := 2) (by decide +kernel))
  have l_233 := va_Nw.use (A := ([.ref a_t, .int p1] : List Value).toArray) rfl (X.2.2.2.2.1 _ (List.mem_of_getElem? (i := 0) rfl))
  have i_X3 : ∀ w ∈ u_ws RX3 TX3 3, w ∈ wsX10_count := k_in _ [151, 152, 153] (by decide +kernel)
  have l_294 := va_Nw.use (A := ([.ref a_t, .int p1] : List Value).toArray) rfl (X.2.2.2.2.1 _ (List.mem_of_getElem? (i := 1) rfl))
  have l_29 : (.fieldLink RX10 29 "CoverOrder" "acts" "LCoverOrder$Acts;" : Cond).before _ s = true := hts _ (List.mem_of_getElem? (i := 3) (by decide +kernel))
  have l_42 : (.fieldLink RX10 42 "CoverOrder" "seen" "LCoverOrder$Row;" : Cond).before _ s = true := hts _ (List.mem_of_getElem? (i := 4) (by decide +kernel))
  have hl : lv_has ls 2 [(0, .ref a_t), (1, .int p1)] := hl
  rw [mX10_count] at hm
  refine lv_iload_n hx hb dX10_count_0 rfl (lv_at hl 1 rfl) ?_
  rcases Classical.em (p1 = 0) with c1_0 | c1_0
  · rw [if_pos c1_0] at hm
    refine lv_tableIn (off := 55) (tgt := 56) hx hb dX10_count_1 (by rw [c1_0]; decide) (by rw [c1_0]; decide) (by rw [c1_0]; decide) (by decide) ?_
    refine lv_aload_n hx hb dX10_count_56 rfl (lv_at hl 0 rfl) ?_
    refine va_get (D := G) (ci := 7) (v := .ref a_t_text) (C := RX10) (T := TX10) (N := 13) hx hb hts i_X10 hown hK hP 0 rfl rfl 0 (by decide) l_10 (fun _ h9 => h9) rfl dX10_count_57 ?_
    refine kcV0 (st1 := [.int (mX8_length k_t_text_letters_size)]) X hA (c_X8_length l G cI cZ cE a_t_text a_t_text_letters a_t_text_letters_items k_t_text_letters_size _ rfl) (cwV 0 hts gX10_count_X8_length rfl rfl rfl hd_X8_length ⟨Nat.le_of_ble_eq_true rfl, Nat.le_of_ble_eq_true rfl⟩) 1 5 rfl rfl hl.1 dX10_count_60 hP hD hS [1, 2] rfl rfl rfl [] rfl (Nat.le_of_ble_eq_true rfl) rfl ⟨Nat.zero_le _, Nat.zero_le _⟩ (fun H locs hP hD hS => ?_)
    have hm := Option.some.inj hm
    subst hm
    exact k_iret (v := (mX8_length k_t_text_letters_size)) X rfl dX10_count_63 hP hD hS
  rw [if_neg c1_0] at hm
  rcases Classical.em (p1 = 1) with c1_1 | c1_1
  · rw [if_pos c1_1] at hm
    refine lv_tableIn (off := 63) (tgt := 64) hx hb dX10_count_1 (by rw [c1_1]; decide) (by rw [c1_1]; decide) (by rw [c1_1]; decide) (by decide) ?_
    refine lv_aload_n hx hb dX10_count_64 rfl (lv_at hl 0 rfl) ?_
    refine va_get (D := G) (ci := 7) (v := .ref a_t_edges) (C := RX10) (T := TX10) (N := 13) hx hb hts i_X10 hown hK hP 0 rfl rfl 1 (by decide) l_19 (fun _ h9 => h9) rfl dX10_count_65 ?_
    refine va_getN (D := G) (ci := 2) (v := .int k_t_edges_knots) (C := RX3) (T := TX3) (N := 3) hx hb hts i_X3 hown hK hP 3 rfl rfl 1 (by decide) l_233 (fun _ h9 => h9) rfl dX10_count_68 ?_
    have hm := Option.some.inj hm
    subst hm
    exact k_iret (v := k_t_edges_knots) X rfl dX10_count_71 hP hD hS
  rw [if_neg c1_1] at hm
  rcases Classical.em (p1 = 2) with c1_2 | c1_2
  · rw [if_pos c1_2] at hm
    refine lv_tableIn (off := 71) (tgt := 72) hx hb dX10_count_1 (by rw [c1_2]; decide) (by rw [c1_2]; decide) (by rw [c1_2]; decide) (by decide) ?_
    refine lv_aload_n hx hb dX10_count_72 rfl (lv_at hl 0 rfl) ?_
    refine va_get (D := G) (ci := 7) (v := .ref a_t_edges) (C := RX10) (T := TX10) (N := 13) hx hb hts i_X10 hown hK hP 0 rfl rfl 1 (by decide) l_19 (fun _ h9 => h9) rfl dX10_count_73 ?_
    refine kcV0 (st1 := [.int (mX3_size k_t_edges_row_size)]) X hA (c_X3_size l G cI cZ cE a_t_edges a_t_edges_row a_t_edges_row_items k_t_edges_knots k_t_edges_nextStamp k_t_edges_row_size _ rfl) (cwV 0 hts gX10_count_X3_size rfl rfl rfl hd_X3_size ⟨Nat.le_of_ble_eq_true rfl, Nat.le_of_ble_eq_true rfl⟩) 3 2 rfl rfl hl.1 dX10_count_76 hP hD hS [3, 4] rfl rfl rfl [] rfl (Nat.le_of_ble_eq_true rfl) rfl ⟨Nat.zero_le _, Nat.zero_le _⟩ (fun H locs hP hD hS => ?_)
    have hm := Option.some.inj hm
    subst hm
    exact k_iret (v := (mX3_size k_t_edges_row_size)) X rfl dX10_count_79 hP hD hS
  rw [if_neg c1_2] at hm
  rcases Classical.em (p1 = 6) with c1_6 | c1_6
  · rw [if_pos c1_6] at hm
    refine lv_tableIn (off := 79) (tgt := 80) hx hb dX10_count_1 (by rw [c1_6]; decide) (by rw [c1_6]; decide) (by rw [c1_6]; decide) (by decide) ?_
    refine lv_aload_n hx hb dX10_count_80 rfl (lv_at hl 0 rfl) ?_
    refine va_get (D := G) (ci := 7) (v := .ref a_t_edges) (C := RX10) (T := TX10) (N := 13) hx hb hts i_X10 hown hK hP 0 rfl rfl 1 (by decide) l_19 (fun _ h9 => h9) rfl dX10_count_81 ?_
    refine va_getN (D := G) (ci := 2) (v := .int k_t_edges_nextStamp) (C := RX3) (T := TX3) (N := 3) hx hb hts i_X3 hown hK hP 3 rfl rfl 2 (by decide) l_294 (fun _ h9 => h9) rfl dX10_count_84 ?_
    have hm := Option.some.inj hm
    subst hm
    exact k_iret (v := k_t_edges_nextStamp) X rfl dX10_count_87 hP hD hS
  rw [if_neg c1_6] at hm
  rcases Classical.em (p1 = 8) with c1_8 | c1_8
  · rw [if_pos c1_8] at hm
    refine lv_tableIn (off := 87) (tgt := 88) hx hb dX10_count_1 (by rw [c1_8]; decide) (by rw [c1_8]; decide) (by rw [c1_8]; decide) (by decide) ?_
    refine lv_aload_n hx hb dX10_count_88 rfl (lv_at hl 0 rfl) ?_
    refine va_get (D := G) (ci := 7) (v := .ref a_t_acts) (C := RX10) (T := TX10) (N := 13) hx hb hts i_X10 hown hK hP 0 rfl rfl 3 (by decide) l_29 (fun _ h9 => h9) rfl dX10_count_89 ?_
    refine kcV0 (st1 := [.int (mX0_size k_t_acts_places_size)]) X hA (c_X0_size l G cI cZ cE a_t_acts a_t_acts_deleted a_t_acts_places a_t_acts_places_items k_t_acts_places_size _ rfl) (cwV 0 hts gX10_count_X0_size rfl rfl rfl hd_X0_size ⟨Nat.le_of_ble_eq_true rfl, Nat.le_of_ble_eq_true rfl⟩) 6 0 rfl rfl hl.1 dX10_count_92 hP hD hS [6, 7] rfl rfl rfl [] rfl (Nat.le_of_ble_eq_true rfl) rfl ⟨Nat.zero_le _, Nat.zero_le _⟩ (fun H locs hP hD hS => ?_)
    have hm := Option.some.inj hm
    subst hm
    exact k_iret (v := (mX0_size k_t_acts_places_size)) X rfl dX10_count_95 hP hD hS
  rw [if_neg c1_8] at hm
  rcases Classical.em (p1 = 9) with c1_9 | c1_9
  · rw [if_pos c1_9] at hm
    refine lv_tableIn (off := 95) (tgt := 96) hx hb dX10_count_1 (by rw [c1_9]; decide) (by rw [c1_9]; decide) (by rw [c1_9]; decide) (by decide) ?_
    refine lv_aload_n hx hb dX10_count_96 rfl (lv_at hl 0 rfl) ?_
    refine va_get (D := G) (ci := 7) (v := .ref a_t_seen) (C := RX10) (T := TX10) (N := 13) hx hb hts i_X10 hown hK hP 0 rfl rfl 5 (by decide) l_42 (fun _ h9 => h9) rfl dX10_count_97 ?_
    refine kcV0 (st1 := [.int (mX6_size k_t_seen_size)]) X hA (c_X6_size l G cI cZ cE a_t_seen a_t_seen_items k_t_seen_size _ rfl) (cwV 0 hts gX10_count_X6_size rfl rfl rfl hd_X6_size ⟨Nat.le_of_ble_eq_true rfl, Nat.le_of_ble_eq_true rfl⟩) 8 3 rfl rfl hl.1 dX10_count_100 hP hD hS [8] rfl rfl rfl [] rfl (Nat.le_of_ble_eq_true rfl) rfl ⟨Nat.zero_le _, Nat.zero_le _⟩ (fun H locs hP hD hS => ?_)
    have hm := Option.some.inj hm
    subst hm
    exact k_iret (v := (mX6_size k_t_seen_size)) X rfl dX10_count_103 hP hD hS
  rw [if_neg c1_9] at hm
  refine k_tableDef (tgt := 104) hx hb dX10_count_1 (by
    have z0 : Int32.toInt p1 ≠ 0 := fun h => c1_0 (Int32.toInt_inj.mp (h.trans (by decide)))
    have z1 : Int32.toInt p1 ≠ 1 := fun h => c1_1 (Int32.toInt_inj.mp (h.trans (by decide)))
    have z2 : Int32.toInt p1 ≠ 2 := fun h => c1_2 (Int32.toInt_inj.mp (h.trans (by decide)))
    by_cases z3 : Int32.toInt p1 = 3
    · exact Or.inr (Or.inr ⟨by omega, by omega, by rw [z3]; rfl⟩)
    by_cases z4 : Int32.toInt p1 = 4
    · exact Or.inr (Or.inr ⟨by omega, by omega, by rw [z4]; rfl⟩)
    by_cases z5 : Int32.toInt p1 = 5
    · exact Or.inr (Or.inr ⟨by omega, by omega, by rw [z5]; rfl⟩)
    have z6 : Int32.toInt p1 ≠ 6 := fun h => c1_6 (Int32.toInt_inj.mp (h.trans (by decide)))
    by_cases z7 : Int32.toInt p1 = 7
    · exact Or.inr (Or.inr ⟨by omega, by omega, by rw [z7]; rfl⟩)
    have z8 : Int32.toInt p1 ≠ 8 := fun h => c1_8 (Int32.toInt_inj.mp (h.trans (by decide)))
    have z9 : Int32.toInt p1 ≠ 9 := fun h => c1_9 (Int32.toInt_inj.mp (h.trans (by decide)))
    rcases (show Int32.toInt p1 < 0 ∨ 9 < Int32.toInt p1 by omega) with h | h
    · exact Or.inl h
    · exact Or.inr (Or.inl h)) (by decide) ?_
  refine lv_aload_n hx hb dX10_count_104 rfl (lv_at hl 0 rfl) ?_
  refine lv_iload_n hx hb dX10_count_105 rfl (lv_at hl 1 rfl) ?_
  obtain ⟨r106, hc106, hm⟩ := kbind hm
  refine kcV (ws1 := [(a_t, .inr (7, [.ref a_t_text, .ref a_t_edges, .ref a_t_trial, .ref a_t_acts, .ref a_t_slots, .ref a_t_seen, .ref a_t_covers, .ref a_t_trialCovers, .ref a_t_walk, .ref a_t_least, .ref a_t_told, .int k_t_keptSlots, .long k_t_theSeed])), (a_t_text, .inr (5, [.ref a_t_text_letters])), (a_t_text_letters, .inr (3, [.ref a_t_text_letters_items, .int k_t_text_letters_size])), (a_t_edges, .inr (2, [.ref a_t_edges_row, .int k_t_edges_knots, .int k_t_edges_nextStamp])), (a_t_edges_row, .inr (3, [.ref a_t_edges_row_items, .int k_t_edges_row_size])), (a_t_edges_row_items, .inl (cI, 24, .inl f_t_edges_row_items)), (a_t_acts, .inr (0, [.ref a_t_acts_deleted, .ref a_t_acts_places])), (a_t_acts_places, .inr (3, [.ref a_t_acts_places_items, .int k_t_acts_places_size])), (a_t_seen, .inr (3, [.ref a_t_seen_items, .int k_t_seen_size])), (a_t_covers, .inr (1, [.long r106.2.1, .long r106.2.2.1, .long r106.2.2.2.1, .int r106.2.2.2.2]))]) (st1 := [.int r106.1]) X hA (c_X10_countCovers l G cI cZ cE a_t a_t_text a_t_edges a_t_trial a_t_acts a_t_slots a_t_seen a_t_covers a_t_trialCovers a_t_walk a_t_least a_t_told a_t_edges_row a_t_edges_row_items k_t_keptSlots k_t_theSeed k_t_edges_knots k_t_edges_nextStamp k_t_edges_row_size f_t_edges_row_items k_t_covers_grid k_t_covers_covered k_t_covers_coverers k_t_covers_reached p1 r106 hc106) (cwV 1 hts gX10_count_X10_countCovers rfl rfl rfl hd_X10_countCovers ⟨Nat.le_of_ble_eq_true rfl, Nat.le_of_ble_eq_true rfl⟩) 0 7 rfl rfl hl.1 dX10_count_106 hP hD hS [0, 3, 4, 5, 9] rfl rfl rfl rfl rfl [] rfl (Nat.le_of_ble_eq_true rfl) rfl ⟨Nat.zero_le _, Nat.zero_le _⟩ (fun H locs hP hD hS => ?_)
  have hm := Option.some.inj hm
  subst hm
  exact k_iret (v := r106.1) X rfl dX10_count_109 hP hD hS
theorem hd_X10_count : yX10_count.cls = RX10 ∧ yX10_count.cls ≠ "java/lang/invoke/MethodHandle" ∧ yX10_count.cls ≠ "java/lang/invoke/VarHandle" ∧ (parseMethodDescriptor yX10_count.desc).map (fun d => d.parameters.length) = some 1 := by decide +kernel
