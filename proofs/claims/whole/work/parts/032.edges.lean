/-! CoverOrder.Acts size -/
set_option maxRecDepth 100000 in
set_option maxHeartbeats 4000000 in
theorem c_X0_size (l : Launch) (G : va_G) (cI cZ cE : ClassId) (a_t a_t_deleted a_t_places a_t_places_items : Nat) (k_t_places_size : Int32) (R : Int32) (hm : mX0_size k_t_places_size = R) : kM l yX0_size wsX0_size { frames := 1, cells := 0, slots := 0, locals := 20 } G cI cZ cE [.ref a_t] [(a_t, .inr (0, [.ref a_t_deleted, .ref a_t_places])), (a_t_places, .inr (3, [.ref a_t_places_items, .int k_t_places_size]))] [(a_t, .inr (0, [.ref a_t_deleted, .ref a_t_places])), (a_t_places, .inr (3, [.ref a_t_places_items, .int k_t_places_size]))] (some (.int R)) := by
  refine kM_of cX0_size 1 (some .int) RX0 (by decide) rfl rfl (Nat.le_of_ble_eq_true rfl) ?_
  intro p e s m below meth c A ls X hA hP hD hS hl
  have hx := X.1.1
  have hb := X.1.2.1
  have hts := X.1.2.2.2.2
  have hown := X.1.2.2.2.1
  have hK := X.2.2.2.1
  have l_20 : (.fieldLink RX0 20 "CoverOrder$Acts" "places" "LCoverOrder$Row;" : Cond).before _ s = true := hts _ (List.mem_of_getElem? (i := 1) (by decide +kernel))
  have i_X0 : ∀ w ∈ u_ws RX0 TX0 2, w ∈ wsX0_size := k_in _ [8, 9] (by decide +kernel)
  have hl : lv_has ls 1 [(0, .ref a_t)] := hl
  rw [mX0_size] at hm
  refine lv_aload_n hx hb dX0_size_0 rfl (lv_at hl 0 rfl) ?_
  refine va_get (D := G) (ci := 0) (v := .ref a_t_places) (C := RX0) (T := TX0) (N := 2) hx hb hts i_X0 hown hK hP 0 rfl rfl 1 (by decide) l_20 (fun _ h9 => h9) rfl dX0_size_1 ?_
  refine kcV0 (st1 := [.int (mX6_size k_t_places_size)]) X hA (c_X6_size l G cI cZ cE a_t_places a_t_places_items k_t_places_size _ rfl) (cwV 0 hts gX0_size_X6_size rfl rfl rfl hd_X6_size ⟨Nat.le_of_ble_eq_true rfl, Nat.le_of_ble_eq_true rfl⟩) 1 3 rfl rfl hl.1 dX0_size_4 hP hD hS [1] rfl rfl rfl [] rfl (Nat.le_of_ble_eq_true rfl) rfl ⟨Nat.zero_le _, Nat.zero_le _⟩ (fun H locs hP hD hS => ?_)
  subst hm
  exact k_iret (v := (mX6_size k_t_places_size)) X rfl dX0_size_7 hP hD hS
theorem hd_X0_size : yX0_size.cls = RX0 ∧ yX0_size.cls ≠ "java/lang/invoke/MethodHandle" ∧ yX0_size.cls ≠ "java/lang/invoke/VarHandle" ∧ (parseMethodDescriptor yX0_size.desc).map (fun d => d.parameters.length) = some 0 := by decide +kernel
/-! CoverOrder.Acts clear -/
set_option maxRecDepth 100000 in
set_option maxHeartbeats 4000000 in
theorem c_X0_clear (l : Launch) (G : va_G) (cI cZ cE : ClassId) (a_t a_t_deleted a_t_places a_t_deleted_items a_t_places_items : Nat) (k_t_deleted_size : Int32) (k_t_places_size : Int32) (R : Int32 × Int32) (hm : mX0_clear k_t_deleted_size k_t_places_size = R) : kM l yX0_clear wsX0_clear { frames := 1, cells := 0, slots := 0, locals := 20 } G cI cZ cE [.ref a_t] [(a_t, .inr (0, [.ref a_t_deleted, .ref a_t_places])), (a_t_deleted, .inr (3, [.ref a_t_deleted_items, .int k_t_deleted_size])), (a_t_places, .inr (3, [.ref a_t_places_items, .int k_t_places_size]))] [(a_t, .inr (0, [.ref a_t_deleted, .ref a_t_places])), (a_t_deleted, .inr (3, [.ref a_t_deleted_items, .int R.1])), (a_t_places, .inr (3, [.ref a_t_places_items, .int R.2]))] none := by
  refine kM_of cX0_clear 1 none RX0 (by decide) rfl rfl (Nat.le_of_ble_eq_true rfl) ?_
  intro p e s m below meth c A ls X hA hP hD hS hl
  have hx := X.1.1
  have hb := X.1.2.1
  have hts := X.1.2.2.2.2
  have hown := X.1.2.2.2.1
  have hK := X.2.2.2.1
  have l_14 : (.fieldLink RX0 14 "CoverOrder$Acts" "deleted" "LCoverOrder$Row;" : Cond).before _ s = true := hts _ (List.mem_of_getElem? (i := 1) (by decide +kernel))
  have i_X0 : ∀ w ∈ u_ws RX0 TX0 2, w ∈ wsX0_clear := k_in _ [9, 10] (by decide +kernel)
  have l_20 : (.fieldLink RX0 20 "CoverOrder$Acts" "places" "LCoverOrder$Row;" : Cond).before _ s = true := hts _ (List.mem_of_getElem? (i := 2) (by decide +kernel))
  have hl : lv_has ls 1 [(0, .ref a_t)] := hl
  rw [mX0_clear] at hm
  refine lv_aload_n hx hb dX0_clear_0 rfl (lv_at hl 0 rfl) ?_
  refine va_get (D := G) (ci := 0) (v := .ref a_t_deleted) (C := RX0) (T := TX0) (N := 2) hx hb hts i_X0 hown hK hP 0 rfl rfl 0 (by decide) l_14 (fun _ h9 => h9) rfl dX0_clear_1 ?_
  refine kcV (ws1 := [(a_t, .inr (0, [.ref a_t_deleted, .ref a_t_places])), (a_t_deleted, .inr (3, [.ref a_t_deleted_items, .int (mX6_clear k_t_deleted_size)])), (a_t_places, .inr (3, [.ref a_t_places_items, .int k_t_places_size]))]) (st1 := []) X hA (c_X6_clear l G cI cZ cE a_t_deleted a_t_deleted_items k_t_deleted_size _ rfl) (cwV 0 hts gX0_clear_X6_clear rfl rfl rfl hd_X6_clear ⟨Nat.le_of_ble_eq_true rfl, Nat.le_of_ble_eq_true rfl⟩) 1 3 rfl rfl hl.1 dX0_clear_4 hP hD hS [1] rfl rfl rfl rfl rfl [] rfl (Nat.le_of_ble_eq_true rfl) rfl ⟨Nat.zero_le _, Nat.zero_le _⟩ (fun H locs hP hD hS => ?_)
  refine lv_aload_n hx hb dX0_clear_7 rfl (lv_at hl 0 rfl) ?_
  refine va_get (D := G) (ci := 0) (v := .ref a_t_places) (C := RX0) (T := TX0) (N := 2) hx hb hts i_X0 hown hK hP 0 rfl rfl 1 (by decide) l_20 (fun _ h9 => h9) rfl dX0_clear_8 ?_
  refine kcV (ws1 := [(a_t, .inr (0, [.ref a_t_deleted, .ref a_t_places])), (a_t_deleted, .inr (3, [.ref a_t_deleted_items, .int (mX6_clear k_t_deleted_size)])), (a_t_places, .inr (3, [.ref a_t_places_items, .int (mX6_clear k_t_places_size)]))]) (st1 := []) X hA (c_X6_clear l G cI cZ cE a_t_places a_t_places_items k_t_places_size _ rfl) (cwV 0 hts gX0_clear_X6_clear rfl rfl rfl hd_X6_clear ⟨Nat.le_of_ble_eq_true rfl, Nat.le_of_ble_eq_true rfl⟩) 2 3 rfl rfl hl.1 dX0_clear_11 hP hD hS [2] rfl rfl rfl rfl rfl [] rfl (Nat.le_of_ble_eq_true rfl) rfl ⟨Nat.zero_le _, Nat.zero_le _⟩ (fun H locs hP hD hS => ?_)
  subst hm
  exact k_vret X rfl dX0_clear_14 hP hD hS
theorem hd_X0_clear : yX0_clear.cls = RX0 ∧ yX0_clear.cls ≠ "java/lang/invoke/MethodHandle" ∧ yX0_clear.cls ≠ "java/lang/invoke/VarHandle" ∧ (parseMethodDescriptor yX0_clear.desc).map (fun d => d.parameters.length) = some 0 := by decide +kernel
/-! CoverOrder.Acts addDeleted -/
set_option maxRecDepth 100000 in
set_option maxHeartbeats 4000000 in
theorem c_X0_addDeleted (l : Launch) (G : va_G) (cI cZ cE : ClassId) (a_t a_t_deleted a_t_places a_t_deleted_items a_t_places_items : Nat) (k_t_deleted_size : Int32) (f_t_deleted_items : Nat → Int32) (k_t_places_size : Int32) (f_t_places_items : Nat → Int32) (p1 : Int32) (p2 : Int32) (R : Int32 × (Nat → Int32) × Int32 × (Nat → Int32)) (hm : mX0_addDeleted k_t_deleted_size f_t_deleted_items k_t_places_size f_t_places_items p1 p2 = some R) : kM l yX0_addDeleted wsX0_addDeleted { frames := 3, cells := 0, slots := 0, locals := 64 } G cI cZ cE [.ref a_t, .int p1, .int p2] [(a_t, .inr (0, [.ref a_t_deleted, .ref a_t_places])), (a_t_deleted, .inr (3, [.ref a_t_deleted_items, .int k_t_deleted_size])), (a_t_deleted_items, .inl (cI, 14, .inl f_t_deleted_items)), (a_t_places, .inr (3, [.ref a_t_places_items, .int k_t_places_size])), (a_t_places_items, .inl (cI, 14, .inl f_t_places_items))] [(a_t, .inr (0, [.ref a_t_deleted, .ref a_t_places])), (a_t_deleted, .inr (3, [.ref a_t_deleted_items, .int R.1])), (a_t_deleted_items, .inl (cI, 14, .inl R.2.1)), (a_t_places, .inr (3, [.ref a_t_places_items, .int R.2.2.1])), (a_t_places_items, .inl (cI, 14, .inl R.2.2.2))] none := by
  refine kM_of cX0_addDeleted 3 none RX0 (by decide) rfl rfl (Nat.le_of_ble_eq_true rfl) ?_
  intro p e s m below meth c A ls X hA hP hD hS hl
  have hx := X.1.1
  have hb := X.1.2.1
  have hts := X.1.2.2.2.2
  have hown := X.1.2.2.2.1
  have hK := X.2.2.2.1
  have l_20 : (.fieldLink RX0 20 "CoverOrder$Acts" "places" "LCoverOrder$Row;" : Cond).before _ s = true := hts _ (List.mem_of_getElem? (i := 1) (by decide +kernel))
  have i_X0 : ∀ w ∈ u_ws RX0 TX0 2, w ∈ wsX0_addDeleted := k_in _ [23, 24] (by decide +kernel)
  have l_14 : (.fieldLink RX0 14 "CoverOrder$Acts" "deleted" "LCoverOrder$Row;" : Cond).before _ s = true := hts _ (List.mem_of_getElem? (i := 2) (by decide +kernel))
  have hl : lv_has ls 3 [(0, .ref a_t), (1, .int p1), (2, .int p2)] := hl
  rw [mX0_addDeleted] at hm
  refine lv_aload_n hx hb dX0_addDeleted_0 rfl (lv_at hl 0 rfl) ?_
  refine va_get (D := G) (ci := 0) (v := .ref a_t_places) (C := RX0) (T := TX0) (N := 2) hx hb hts i_X0 hown hK hP 0 rfl rfl 1 (by decide) l_20 (fun _ h9 => h9) rfl dX0_addDeleted_1 ?_
  refine kcV0 (st1 := [.int (bI (mX6_isFull 14 k_t_places_size))]) X hA (c_X6_isFull l G cI cZ cE a_t_places a_t_places_items 14 k_t_places_size f_t_places_items _ rfl) (cwV 0 hts gX0_addDeleted_X6_isFull rfl rfl rfl hd_X6_isFull ⟨Nat.le_of_ble_eq_true rfl, Nat.le_of_ble_eq_true rfl⟩) 3 3 rfl rfl hl.1 dX0_addDeleted_4 hP hD hS [3, 4] rfl rfl rfl [] rfl (Nat.le_of_ble_eq_true rfl) rfl ⟨Nat.zero_le _, Nat.zero_le _⟩ (fun H locs hP hD hS => ?_)
  have h28 : ∀ (w28_k_t_deleted_size : Int32) (w28_f_t_deleted_items : Nat → Int32) (w28_k_t_places_size : Int32) (w28_f_t_places_items : Nat → Int32) (H : Heap) (locs : List Loc) (ls : Array Slot), va_P G vwCl [(a_t, .inr (0, [.ref a_t_deleted, .ref a_t_places])), (a_t_deleted, .inr (3, [.ref a_t_deleted_items, .int w28_k_t_deleted_size])), (a_t_deleted_items, .inl (cI, 14, .inl w28_f_t_deleted_items)), (a_t_places, .inr (3, [.ref a_t_places_items, .int w28_k_t_places_size])), (a_t_places_items, .inl (cI, 14, .inl w28_f_t_places_items))] H → va_D A [(a_t, .inr (0, [.ref a_t_deleted, .ref a_t_places])), (a_t_deleted, .inr (3, [.ref a_t_deleted_items, .int w28_k_t_deleted_size])), (a_t_deleted_items, .inl (cI, 14, .inl w28_f_t_deleted_items)), (a_t_places, .inr (3, [.ref a_t_places_items, .int w28_k_t_places_size])), (a_t_places_items, .inl (cI, 14, .inl w28_f_t_places_items))] → va_S A s.heap H locs → lv_has ls 3 [(0, .ref a_t), (1, .int p1), (2, .int p2)] → mX0_addDeleted_J28 p1 p2 w28_k_t_deleted_size w28_f_t_deleted_items w28_k_t_places_size w28_f_t_places_items = some R → W p l e { frames := 3, cells := 0, slots := 0, locals := 64 } s m ([.ref a_t, .int p1, .int p2] : List Value).toArray below meth c H locs 0 0 (kQ below G [(a_t, .inr (0, [.ref a_t_deleted, .ref a_t_places])), (a_t_deleted, .inr (3, [.ref a_t_deleted_items, .int R.1])), (a_t_deleted_items, .inl (cI, 14, .inl R.2.1)), (a_t_places, .inr (3, [.ref a_t_places_items, .int R.2.2.1])), (a_t_places_items, .inl (cI, 14, .inl R.2.2.2))] none A ([.ref a_t, .int p1, .int p2] : List Value).toArray s) (F0 m 28 ls []) := by
    intro w28_k_t_deleted_size w28_f_t_deleted_items w28_k_t_places_size w28_f_t_places_items H locs ls hP hD hS hl hm
    rw [mX0_addDeleted_J28] at hm
    refine lv_aload_n hx hb dX0_addDeleted_28 rfl (lv_at hl 0 rfl) ?_
    refine va_get (D := G) (ci := 0) (v := .ref a_t_places) (C := RX0) (T := TX0) (N := 2) hx hb hts i_X0 hown hK hP 0 rfl rfl 1 (by decide) l_20 (fun _ h9 => h9) rfl dX0_addDeleted_29 ?_
    refine lv_iload_n hx hb dX0_addDeleted_32 rfl (lv_at hl 1 rfl) ?_
    obtain ⟨r33, hc33, hm⟩ := kbind hm
    refine kcV (ws1 := [(a_t, .inr (0, [.ref a_t_deleted, .ref a_t_places])), (a_t_deleted, .inr (3, [.ref a_t_deleted_items, .int w28_k_t_deleted_size])), (a_t_deleted_items, .inl (cI, 14, .inl w28_f_t_deleted_items)), (a_t_places, .inr (3, [.ref a_t_places_items, .int r33.1])), (a_t_places_items, .inl (cI, 14, .inl r33.2))]) (st1 := []) X hA (c_X6_add l G cI cZ cE a_t_places a_t_places_items 14 w28_k_t_places_size w28_f_t_places_items p1 r33 hc33) (cwV 1 hts gX0_addDeleted_X6_add rfl rfl rfl hd_X6_add ⟨Nat.le_of_ble_eq_true rfl, Nat.le_of_ble_eq_true rfl⟩) 3 3 rfl rfl hl.1 dX0_addDeleted_33 hP hD hS [3, 4] rfl rfl rfl rfl rfl [] rfl (Nat.le_of_ble_eq_true rfl) rfl ⟨Nat.zero_le _, Nat.zero_le _⟩ (fun H locs hP hD hS => ?_)
    refine lv_aload_n hx hb dX0_addDeleted_36 rfl (lv_at hl 0 rfl) ?_
    refine va_get (D := G) (ci := 0) (v := .ref a_t_deleted) (C := RX0) (T := TX0) (N := 2) hx hb hts i_X0 hown hK hP 0 rfl rfl 0 (by decide) l_14 (fun _ h9 => h9) rfl dX0_addDeleted_37 ?_
    refine lv_iload_n hx hb dX0_addDeleted_40 rfl (lv_at hl 2 rfl) ?_
    obtain ⟨r41, hc41, hm⟩ := kbind hm
    refine kcV (ws1 := [(a_t, .inr (0, [.ref a_t_deleted, .ref a_t_places])), (a_t_deleted, .inr (3, [.ref a_t_deleted_items, .int r41.1])), (a_t_deleted_items, .inl (cI, 14, .inl r41.2)), (a_t_places, .inr (3, [.ref a_t_places_items, .int r33.1])), (a_t_places_items, .inl (cI, 14, .inl r33.2))]) (st1 := []) X hA (c_X6_add l G cI cZ cE a_t_deleted a_t_deleted_items 14 w28_k_t_deleted_size w28_f_t_deleted_items p2 r41 hc41) (cwV 1 hts gX0_addDeleted_X6_add rfl rfl rfl hd_X6_add ⟨Nat.le_of_ble_eq_true rfl, Nat.le_of_ble_eq_true rfl⟩) 1 3 rfl rfl hl.1 dX0_addDeleted_41 hP hD hS [1, 2] rfl rfl rfl rfl rfl [] rfl (Nat.le_of_ble_eq_true rfl) rfl ⟨Nat.zero_le _, Nat.zero_le _⟩ (fun H locs hP hD hS => ?_)
    have hm := Option.some.inj hm
    subst hm
    exact k_vret X rfl dX0_addDeleted_44 hP hD hS
  refine lv_if_eq (tgt := 28) hx hb dX0_addDeleted_7 (by decide) (fun c7 => ?_) (fun c7 => ?_)
  · have c7 := kb0 c7
    rw [if_neg c7] at hm
    exact h28 k_t_deleted_size f_t_deleted_items k_t_places_size f_t_places_items _ _ _ hP hD hS (lv_sub hl [0, 1, 2] rfl) hm
  · have c7 := kb1 c7
    rw [if_pos c7] at hm
    refine lv_aload_n hx hb dX0_addDeleted_10 rfl (lv_at hl 0 rfl) ?_
    refine va_get (D := G) (ci := 0) (v := .ref a_t_places) (C := RX0) (T := TX0) (N := 2) hx hb hts i_X0 hown hK hP 0 rfl rfl 1 (by decide) l_20 (fun _ h9 => h9) rfl dX0_addDeleted_11 ?_
    refine lv_iconst (v := 0) hx hb dX0_addDeleted_14 (by decide) ?_
    obtain ⟨r15, hc15, hm⟩ := kbind hm
    refine kcV (ws1 := [(a_t, .inr (0, [.ref a_t_deleted, .ref a_t_places])), (a_t_deleted, .inr (3, [.ref a_t_deleted_items, .int k_t_deleted_size])), (a_t_deleted_items, .inl (cI, 14, .inl f_t_deleted_items)), (a_t_places, .inr (3, [.ref a_t_places_items, .int r15.2.1])), (a_t_places_items, .inl (cI, 14, .inl r15.2.2))]) (st1 := [.int r15.1]) X hA (c_X6_takeOut l G cI cZ cE a_t_places a_t_places_items 14 k_t_places_size f_t_places_items 0 r15 hc15) (cwV 1 hts gX0_addDeleted_X6_takeOut rfl rfl rfl hd_X6_takeOut ⟨Nat.le_of_ble_eq_true rfl, Nat.le_of_ble_eq_true rfl⟩) 3 3 rfl rfl hl.1 dX0_addDeleted_15 hP hD hS [3, 4] rfl rfl rfl rfl rfl [] rfl (Nat.le_of_ble_eq_true rfl) rfl ⟨Nat.zero_le _, Nat.zero_le _⟩ (fun H locs hP hD hS => ?_)
    refine lv_pop hx hb dX0_addDeleted_18 rfl ?_
    refine lv_aload_n hx hb dX0_addDeleted_19 rfl (lv_at hl 0 rfl) ?_
    refine va_get (D := G) (ci := 0) (v := .ref a_t_deleted) (C := RX0) (T := TX0) (N := 2) hx hb hts i_X0 hown hK hP 0 rfl rfl 0 (by decide) l_14 (fun _ h9 => h9) rfl dX0_addDeleted_20 ?_
    refine lv_iconst (v := 0) hx hb dX0_addDeleted_23 (by decide) ?_
    obtain ⟨r24, hc24, hm⟩ := kbind hm
    refine kcV (ws1 := [(a_t, .inr (0, [.ref a_t_deleted, .ref a_t_places])), (a_t_deleted, .inr (3, [.ref a_t_deleted_items, .int r24.2.1])), (a_t_deleted_items, .inl (cI, 14, .inl r24.2.2)), (a_t_places, .inr (3, [.ref a_t_places_items, .int r15.2.1])), (a_t_places_items, .inl (cI, 14, .inl r15.2.2))]) (st1 := [.int r24.1]) X hA (c_X6_takeOut l G cI cZ cE a_t_deleted a_t_deleted_items 14 k_t_deleted_size f_t_deleted_items 0 r24 hc24) (cwV 1 hts gX0_addDeleted_X6_takeOut rfl rfl rfl hd_X6_takeOut ⟨Nat.le_of_ble_eq_true rfl, Nat.le_of_ble_eq_true rfl⟩) 1 3 rfl rfl hl.1 dX0_addDeleted_24 hP hD hS [1, 2] rfl rfl rfl rfl rfl [] rfl (Nat.le_of_ble_eq_true rfl) rfl ⟨Nat.zero_le _, Nat.zero_le _⟩ (fun H locs hP hD hS => ?_)
    refine lv_pop hx hb dX0_addDeleted_27 rfl ?_
    exact h28 r24.2.1 r24.2.2 r15.2.1 r15.2.2 _ _ _ hP hD hS (lv_sub hl [0, 1, 2] rfl) hm
theorem hd_X0_addDeleted : yX0_addDeleted.cls = RX0 ∧ yX0_addDeleted.cls ≠ "java/lang/invoke/MethodHandle" ∧ yX0_addDeleted.cls ≠ "java/lang/invoke/VarHandle" ∧ (parseMethodDescriptor yX0_addDeleted.desc).map (fun d => d.parameters.length) = some 2 := by decide +kernel
/-! CoverOrder.Acts addInserted -/
set_option maxRecDepth 100000 in
set_option maxHeartbeats 4000000 in
theorem c_X0_addInserted (l : Launch) (G : va_G) (cI cZ cE : ClassId) (a_t a_t_deleted a_t_places a_t_deleted_items a_t_places_items : Nat) (k_t_deleted_size : Int32) (f_t_deleted_items : Nat → Int32) (k_t_places_size : Int32) (f_t_places_items : Nat → Int32) (R : Int32 × (Nat → Int32) × Int32 × (Nat → Int32)) (hm : mX0_addInserted k_t_deleted_size f_t_deleted_items k_t_places_size f_t_places_items = some R) : kM l yX0_addInserted wsX0_addInserted { frames := 4, cells := 0, slots := 0, locals := 86 } G cI cZ cE [.ref a_t] [(a_t, .inr (0, [.ref a_t_deleted, .ref a_t_places])), (a_t_deleted, .inr (3, [.ref a_t_deleted_items, .int k_t_deleted_size])), (a_t_deleted_items, .inl (cI, 14, .inl f_t_deleted_items)), (a_t_places, .inr (3, [.ref a_t_places_items, .int k_t_places_size])), (a_t_places_items, .inl (cI, 14, .inl f_t_places_items))] [(a_t, .inr (0, [.ref a_t_deleted, .ref a_t_places])), (a_t_deleted, .inr (3, [.ref a_t_deleted_items, .int R.1])), (a_t_deleted_items, .inl (cI, 14, .inl R.2.1)), (a_t_places, .inr (3, [.ref a_t_places_items, .int R.2.2.1])), (a_t_places_items, .inl (cI, 14, .inl R.2.2.2))] none := by
  refine kM_of cX0_addInserted 1 none RX0 (by decide) rfl rfl (Nat.le_of_ble_eq_true rfl) ?_
  intro p e s m below meth c A ls X hA hP hD hS hl
  have hx := X.1.1
  have hb := X.1.2.1
  have hts := X.1.2.2.2.2
  have hown := X.1.2.2.2.1
  have hK := X.2.2.2.1
  have hl : lv_has ls 1 [(0, .ref a_t)] := hl
  rw [mX0_addInserted] at hm
  refine lv_aload_n hx hb dX0_addInserted_0 rfl (lv_at hl 0 rfl) ?_
  refine lv_bipush (v := (-9)) hx hb dX0_addInserted_1 (by decide) ?_
  refine lv_bipush (v := (-9)) hx hb dX0_addInserted_3 (by decide) ?_
  obtain ⟨r5, hc5, hm⟩ := kbind hm
  refine kcV (ws1 := [(a_t, .inr (0, [.ref a_t_deleted, .ref a_t_places])), (a_t_deleted, .inr (3, [.ref a_t_deleted_items, .int r5.1])), (a_t_deleted_items, .inl (cI, 14, .inl r5.2.1)), (a_t_places, .inr (3, [.ref a_t_places_items, .int r5.2.2.1])), (a_t_places_items, .inl (cI, 14, .inl r5.2.2.2))]) (st1 := []) X hA (c_X0_addDeleted l G cI cZ cE a_t a_t_deleted a_t_places a_t_deleted_items a_t_places_items k_t_deleted_size f_t_deleted_items k_t_places_size f_t_places_items (-9) (-9) r5 hc5) (cwV 2 hts gX0_addInserted_X0_addDeleted rfl rfl rfl hd_X0_addDeleted ⟨Nat.le_of_ble_eq_true rfl, Nat.le_of_ble_eq_true rfl⟩) 0 0 rfl rfl hl.1 dX0_addInserted_5 hP hD hS [0, 1, 2, 3, 4] rfl rfl rfl rfl rfl [] rfl (Nat.le_of_ble_eq_true rfl) rfl ⟨Nat.zero_le _, Nat.zero_le _⟩ (fun H locs hP hD hS => ?_)
  have hm := Option.some.inj hm
  subst hm
  exact k_vret X rfl dX0_addInserted_8 hP hD hS
theorem hd_X0_addInserted : yX0_addInserted.cls = RX0 ∧ yX0_addInserted.cls ≠ "java/lang/invoke/MethodHandle" ∧ yX0_addInserted.cls ≠ "java/lang/invoke/VarHandle" ∧ (parseMethodDescriptor yX0_addInserted.desc).map (fun d => d.parameters.length) = some 0 := by decide +kernel
/-! CoverOrder.Edges takeBackLast -/
set_option maxRecDepth 100000 in
set_option maxHeartbeats 4000000 in
theorem c_X3_takeBackLast (l : Launch) (G : va_G) (cI cZ cE : ClassId) (a_t a_t_row a_t_row_items : Nat) (k_t_knots : Int32) (k_t_nextStamp : Int32) (k_t_row_size : Int32) (f_t_row_items : Nat → Int32) (R : Int32 × Int32 × (Nat → Int32)) (hm : mX3_takeBackLast k_t_nextStamp k_t_row_size f_t_row_items = some R) : kM l yX3_takeBackLast wsX3_takeBackLast { frames := 2, cells := 0, slots := 0, locals := 43 } G cI cZ cE [.ref a_t] [(a_t, .inr (2, [.ref a_t_row, .int k_t_knots, .int k_t_nextStamp])), (a_t_row, .inr (3, [.ref a_t_row_items, .int k_t_row_size])), (a_t_row_items, .inl (cI, 24, .inl f_t_row_items))] [(a_t, .inr (2, [.ref a_t_row, .int k_t_knots, .int R.1])), (a_t_row, .inr (3, [.ref a_t_row_items, .int R.2.1])), (a_t_row_items, .inl (cI, 24, .inl R.2.2))] none := by
  refine kM_of cX3_takeBackLast 1 none RX3 (by decide) rfl rfl (Nat.le_of_ble_eq_true rfl) ?_
  intro p e s m below meth c A ls X hA hP hD hS hl
  have hx := X.1.1
  have hb := X.1.2.1
  have hts := X.1.2.2.2.2
  have hown := X.1.2.2.2.1
  have hK := X.2.2.2.1
  have l_14 : (.fieldLink RX3 14 "CoverOrder$Edges" "row" "LCoverOrder$Row;" : Cond).before _ s = true := hts _ (List.mem_of_getElem? (i := 1) (by decide +kernel))
  have i_X3 : ∀ w ∈ u_ws RX3 TX3 3, w ∈ wsX3_takeBackLast := k_in _ [14, 15, 16] (by decide +kernel)
  have l_24 : (.fieldLink RX3 24 "CoverOrder$Edges" "nextStamp" "I" : Cond).before _ s = true := hts _ (List.mem_of_getElem? (i := 2) (by decide +kernel))
  have hl : lv_has ls 1 [(0, .ref a_t)] := hl
  rw [mX3_takeBackLast] at hm
  refine lv_aload_n hx hb dX3_takeBackLast_0 rfl (lv_at hl 0 rfl) ?_
  refine va_get (D := G) (ci := 2) (v := .ref a_t_row) (C := RX3) (T := TX3) (N := 3) hx hb hts i_X3 hown hK hP 0 rfl rfl 0 (by decide) l_14 (fun _ h9 => h9) rfl dX3_takeBackLast_1 ?_
  obtain ⟨r4, hc4, hm⟩ := kbind hm
  refine kcV (ws1 := [(a_t, .inr (2, [.ref a_t_row, .int k_t_knots, .int k_t_nextStamp])), (a_t_row, .inr (3, [.ref a_t_row_items, .int r4.2.1])), (a_t_row_items, .inl (cI, 24, .inl r4.2.2))]) (st1 := [.int r4.1]) X hA (c_X6_takeLast l G cI cZ cE a_t_row a_t_row_items 24 k_t_row_size f_t_row_items r4 hc4) (cwV 0 hts gX3_takeBackLast_X6_takeLast rfl rfl rfl hd_X6_takeLast ⟨Nat.le_of_ble_eq_true rfl, Nat.le_of_ble_eq_true rfl⟩) 1 3 rfl rfl hl.1 dX3_takeBackLast_4 hP hD hS [1, 2] rfl rfl rfl rfl rfl [] rfl (Nat.le_of_ble_eq_true rfl) rfl ⟨Nat.zero_le _, Nat.zero_le _⟩ (fun H locs hP hD hS => ?_)
  refine lv_pop hx hb dX3_takeBackLast_7 rfl ?_
  refine lv_aload_n hx hb dX3_takeBackLast_8 rfl (lv_at hl 0 rfl) ?_
  refine lv_dup hx hb dX3_takeBackLast_9 rfl ?_
  refine va_get (D := G) (ci := 2) (v := .int k_t_nextStamp) (C := RX3) (T := TX3) (N := 3) hx hb hts i_X3 hown hK hP 0 rfl rfl 2 (by decide) l_24 (fun _ h9 => h9) rfl dX3_takeBackLast_10 ?_
  refine lv_iconst (v := 1) hx hb dX3_takeBackLast_13 (by decide) ?_
  refine lv_isub hx hb dX3_takeBackLast_14 ?_
  refine va_put (D := G) (ci := 2) (v := .int (k_t_nextStamp - 1)) (ty := .int) (C := RX3) (T := TX3) (N := 3) hx hb hts i_X3 tyX3 tyX3_ok nmX3 hown hK hP hD hS 0 rfl rfl 2 (by decide) l_24 (fun _ h9 => h9) rfl (by decide +kernel) rfl rfl (Nat.le_of_ble_eq_true rfl) dX3_takeBackLast_15 (fun H locs hP hD hS => ?_)
  have hP : va_P G vwCl [(a_t, .inr (2, [.ref a_t_row, .int k_t_knots, .int (k_t_nextStamp - 1)])), (a_t_row, .inr (3, [.ref a_t_row_items, .int r4.2.1])), (a_t_row_items, .inl (cI, 24, .inl r4.2.2))] H := hP
  have hD : va_D A [(a_t, .inr (2, [.ref a_t_row, .int k_t_knots, .int (k_t_nextStamp - 1)])), (a_t_row, .inr (3, [.ref a_t_row_items, .int r4.2.1])), (a_t_row_items, .inl (cI, 24, .inl r4.2.2))] := hD
  have hm := Option.some.inj hm
  subst hm
  exact k_vret X rfl dX3_takeBackLast_18 hP hD hS
theorem hd_X3_takeBackLast : yX3_takeBackLast.cls = RX3 ∧ yX3_takeBackLast.cls ≠ "java/lang/invoke/MethodHandle" ∧ yX3_takeBackLast.cls ≠ "java/lang/invoke/VarHandle" ∧ (parseMethodDescriptor yX3_takeBackLast.desc).map (fun d => d.parameters.length) = some 0 := by decide +kernel
/-! CoverOrder.Edges putBack -/
set_option maxRecDepth 100000 in
set_option maxHeartbeats 4000000 in
theorem c_X3_putBack (l : Launch) (G : va_G) (cI cZ cE : ClassId) (a_t a_t_row a_t_row_items : Nat) (k_t_knots : Int32) (k_t_nextStamp : Int32) (k_t_row_size : Int32) (f_t_row_items : Nat → Int32) (p1 : Int32) (p2 : Int32) (R : Int32 × (Nat → Int32)) (hm : mX3_putBack k_t_row_size f_t_row_items p1 p2 = some R) : kM l yX3_putBack wsX3_putBack { frames := 2, cells := 0, slots := 0, locals := 43 } G cI cZ cE [.ref a_t, .int p1, .int p2] [(a_t, .inr (2, [.ref a_t_row, .int k_t_knots, .int k_t_nextStamp])), (a_t_row, .inr (3, [.ref a_t_row_items, .int k_t_row_size])), (a_t_row_items, .inl (cI, 24, .inl f_t_row_items))] [(a_t, .inr (2, [.ref a_t_row, .int k_t_knots, .int k_t_nextStamp])), (a_t_row, .inr (3, [.ref a_t_row_items, .int R.1])), (a_t_row_items, .inl (cI, 24, .inl R.2))] none := by
  refine kM_of cX3_putBack 3 none RX3 (by decide) rfl rfl (Nat.le_of_ble_eq_true rfl) ?_
  intro p e s m below meth c A ls X hA hP hD hS hl
  have hx := X.1.1
  have hb := X.1.2.1
  have hts := X.1.2.2.2.2
  have hown := X.1.2.2.2.1
  have hK := X.2.2.2.1
  have l_14 : (.fieldLink RX3 14 "CoverOrder$Edges" "row" "LCoverOrder$Row;" : Cond).before _ s = true := hts _ (List.mem_of_getElem? (i := 1) (by decide +kernel))
  have i_X3 : ∀ w ∈ u_ws RX3 TX3 3, w ∈ wsX3_putBack := k_in _ [13, 14, 15] (by decide +kernel)
  have hl : lv_has ls 3 [(0, .ref a_t), (1, .int p1), (2, .int p2)] := hl
  rw [mX3_putBack] at hm
  refine lv_aload_n hx hb dX3_putBack_0 rfl (lv_at hl 0 rfl) ?_
  refine va_get (D := G) (ci := 2) (v := .ref a_t_row) (C := RX3) (T := TX3) (N := 3) hx hb hts i_X3 hown hK hP 0 rfl rfl 0 (by decide) l_14 (fun _ h9 => h9) rfl dX3_putBack_1 ?_
  refine lv_iload_n hx hb dX3_putBack_4 rfl (lv_at hl 1 rfl) ?_
  refine lv_iload_n hx hb dX3_putBack_5 rfl (lv_at hl 2 rfl) ?_
  obtain ⟨r6, hc6, hm⟩ := kbind hm
  refine kcV (ws1 := [(a_t, .inr (2, [.ref a_t_row, .int k_t_knots, .int k_t_nextStamp])), (a_t_row, .inr (3, [.ref a_t_row_items, .int r6.1])), (a_t_row_items, .inl (cI, 24, .inl r6.2))]) (st1 := []) X hA (c_X6_putIn l G cI cZ cE a_t_row a_t_row_items 24 k_t_row_size f_t_row_items p1 p2 r6 hc6) (cwV 2 hts gX3_putBack_X6_putIn rfl rfl rfl hd_X6_putIn ⟨Nat.le_of_ble_eq_true rfl, Nat.le_of_ble_eq_true rfl⟩) 1 3 rfl rfl hl.1 dX3_putBack_6 hP hD hS [1, 2] rfl rfl rfl rfl rfl [] rfl (Nat.le_of_ble_eq_true rfl) rfl ⟨Nat.zero_le _, Nat.zero_le _⟩ (fun H locs hP hD hS => ?_)
  have hm := Option.some.inj hm
  subst hm
  exact k_vret X rfl dX3_putBack_9 hP hD hS
theorem hd_X3_putBack : yX3_putBack.cls = RX3 ∧ yX3_putBack.cls ≠ "java/lang/invoke/MethodHandle" ∧ yX3_putBack.cls ≠ "java/lang/invoke/VarHandle" ∧ (parseMethodDescriptor yX3_putBack.desc).map (fun d => d.parameters.length) = some 2 := by decide +kernel
/-! CoverOrder.Acts undoLast -/
set_option maxRecDepth 100000 in
set_option maxHeartbeats 4000000 in
theorem c_X0_undoLast (l : Launch) (G : va_G) (cI cZ cE : ClassId) (a_t a_t_deleted a_t_places a_t_deleted_items a_t_places_items a_o0 a_o0_row a_o0_row_items : Nat) (k_t_deleted_size : Int32) (f_t_deleted_items : Nat → Int32) (k_t_places_size : Int32) (f_t_places_items : Nat → Int32) (k_o0_knots : Int32) (k_o0_nextStamp : Int32) (k_o0_row_size : Int32) (f_o0_row_items : Nat → Int32) (R : Int32 × (Nat → Int32) × Int32 × (Nat → Int32) × Int32 × Int32 × (Nat → Int32)) (hm : mX0_undoLast k_t_deleted_size f_t_deleted_items k_t_places_size f_t_places_items k_o0_nextStamp k_o0_row_size f_o0_row_items = some R) : kM l yX0_undoLast wsX0_undoLast { frames := 3, cells := 0, slots := 0, locals := 65 } G cI cZ cE [.ref a_t, .ref a_o0] [(a_t, .inr (0, [.ref a_t_deleted, .ref a_t_places])), (a_t_deleted, .inr (3, [.ref a_t_deleted_items, .int k_t_deleted_size])), (a_t_deleted_items, .inl (cI, 14, .inl f_t_deleted_items)), (a_t_places, .inr (3, [.ref a_t_places_items, .int k_t_places_size])), (a_t_places_items, .inl (cI, 14, .inl f_t_places_items)), (a_o0, .inr (2, [.ref a_o0_row, .int k_o0_knots, .int k_o0_nextStamp])), (a_o0_row, .inr (3, [.ref a_o0_row_items, .int k_o0_row_size])), (a_o0_row_items, .inl (cI, 24, .inl f_o0_row_items))] [(a_t, .inr (0, [.ref a_t_deleted, .ref a_t_places])), (a_t_deleted, .inr (3, [.ref a_t_deleted_items, .int R.1])), (a_t_deleted_items, .inl (cI, 14, .inl R.2.1)), (a_t_places, .inr (3, [.ref a_t_places_items, .int R.2.2.1])), (a_t_places_items, .inl (cI, 14, .inl R.2.2.2.1)), (a_o0, .inr (2, [.ref a_o0_row, .int k_o0_knots, .int R.2.2.2.2.1])), (a_o0_row, .inr (3, [.ref a_o0_row_items, .int R.2.2.2.2.2.1])), (a_o0_row_items, .inl (cI, 24, .inl R.2.2.2.2.2.2))] none := by
  refine kM_of cX0_undoLast 4 none RX0 (by decide) rfl rfl (Nat.le_of_ble_eq_true rfl) ?_
  intro p e s m below meth c A ls X hA hP hD hS hl
  have hx := X.1.1
  have hb := X.1.2.1
  have hts := X.1.2.2.2.2
  have hown := X.1.2.2.2.1
  have hK := X.2.2.2.1
  have l_20 : (.fieldLink RX0 20 "CoverOrder$Acts" "places" "LCoverOrder$Row;" : Cond).before _ s = true := hts _ (List.mem_of_getElem? (i := 1) (by decide +kernel))
  have i_X0 : ∀ w ∈ u_ws RX0 TX0 2, w ∈ wsX0_undoLast := k_in _ [34, 35] (by decide +kernel)
  have l_14 : (.fieldLink RX0 14 "CoverOrder$Acts" "deleted" "LCoverOrder$Row;" : Cond).before _ s = true := hts _ (List.mem_of_getElem? (i := 2) (by decide +kernel))
  have hl : lv_has ls 4 [(0, .ref a_t), (1, .ref a_o0)] := hl
  rw [mX0_undoLast] at hm
  refine lv_aload_n hx hb dX0_undoLast_0 rfl (lv_at hl 0 rfl) ?_
  refine va_get (D := G) (ci := 0) (v := .ref a_t_places) (C := RX0) (T := TX0) (N := 2) hx hb hts i_X0 hown hK hP 0 rfl rfl 1 (by decide) l_20 (fun _ h9 => h9) rfl dX0_undoLast_1 ?_
  obtain ⟨r4, hc4, hm⟩ := kbind hm
  refine kcV (ws1 := [(a_t, .inr (0, [.ref a_t_deleted, .ref a_t_places])), (a_t_deleted, .inr (3, [.ref a_t_deleted_items, .int k_t_deleted_size])), (a_t_deleted_items, .inl (cI, 14, .inl f_t_deleted_items)), (a_t_places, .inr (3, [.ref a_t_places_items, .int r4.2.1])), (a_t_places_items, .inl (cI, 14, .inl r4.2.2)), (a_o0, .inr (2, [.ref a_o0_row, .int k_o0_knots, .int k_o0_nextStamp])), (a_o0_row, .inr (3, [.ref a_o0_row_items, .int k_o0_row_size])), (a_o0_row_items, .inl (cI, 24, .inl f_o0_row_items))]) (st1 := [.int r4.1]) X hA (c_X6_takeLast l G cI cZ cE a_t_places a_t_places_items 14 k_t_places_size f_t_places_items r4 hc4) (cwV 0 hts gX0_undoLast_X6_takeLast rfl rfl rfl hd_X6_takeLast ⟨Nat.le_of_ble_eq_true rfl, Nat.le_of_ble_eq_true rfl⟩) 3 3 rfl rfl hl.1 dX0_undoLast_4 hP hD hS [3, 4] rfl rfl rfl rfl rfl [] rfl (Nat.le_of_ble_eq_true rfl) rfl ⟨Nat.zero_le _, Nat.zero_le _⟩ (fun H locs hP hD hS => ?_)
  refine lv_istore_n (lv' := [(2, .int r4.1), (0, .ref a_t), (1, .ref a_o0)]) hx hb dX0_undoLast_7 rfl hl (by decide) rfl (fun ls hl => ?_)
  refine lv_aload_n hx hb dX0_undoLast_8 rfl (lv_at hl 1 rfl) ?_
  refine va_get (D := G) (ci := 0) (v := .ref a_t_deleted) (C := RX0) (T := TX0) (N := 2) hx hb hts i_X0 hown hK hP 0 rfl rfl 0 (by decide) l_14 (fun _ h9 => h9) rfl dX0_undoLast_9 ?_
  obtain ⟨r12, hc12, hm⟩ := kbind hm
  refine kcV (ws1 := [(a_t, .inr (0, [.ref a_t_deleted, .ref a_t_places])), (a_t_deleted, .inr (3, [.ref a_t_deleted_items, .int r12.2.1])), (a_t_deleted_items, .inl (cI, 14, .inl r12.2.2)), (a_t_places, .inr (3, [.ref a_t_places_items, .int r4.2.1])), (a_t_places_items, .inl (cI, 14, .inl r4.2.2)), (a_o0, .inr (2, [.ref a_o0_row, .int k_o0_knots, .int k_o0_nextStamp])), (a_o0_row, .inr (3, [.ref a_o0_row_items, .int k_o0_row_size])), (a_o0_row_items, .inl (cI, 24, .inl f_o0_row_items))]) (st1 := [.int r12.1]) X hA (c_X6_takeLast l G cI cZ cE a_t_deleted a_t_deleted_items 14 k_t_deleted_size f_t_deleted_items r12 hc12) (cwV 0 hts gX0_undoLast_X6_takeLast rfl rfl rfl hd_X6_takeLast ⟨Nat.le_of_ble_eq_true rfl, Nat.le_of_ble_eq_true rfl⟩) 1 3 rfl rfl hl.1 dX0_undoLast_12 hP hD hS [1, 2] rfl rfl rfl rfl rfl [] rfl (Nat.le_of_ble_eq_true rfl) rfl ⟨Nat.zero_le _, Nat.zero_le _⟩ (fun H locs hP hD hS => ?_)
  refine lv_istore_n (lv' := [(3, .int r12.1), (2, .int r4.1), (0, .ref a_t), (1, .ref a_o0)]) hx hb dX0_undoLast_15 rfl hl (by decide) rfl (fun ls hl => ?_)
  refine lv_iload_n hx hb dX0_undoLast_16 rfl (lv_at hl 1 rfl) ?_
  refine lv_bipush (v := (-9)) hx hb dX0_undoLast_17 (by decide) ?_
  refine lv_icmp_ne (tgt := 29) hx hb dX0_undoLast_19 (by decide) (fun c19 => ?_) (fun c19 => ?_)
  · rw [if_neg c19] at hm
    refine lv_aload_n hx hb dX0_undoLast_29 rfl (lv_at hl 3 rfl) ?_
    refine lv_iload_n hx hb dX0_undoLast_30 rfl (lv_at hl 1 rfl) ?_
    refine lv_iload_n hx hb dX0_undoLast_31 rfl (lv_at hl 0 rfl) ?_
    obtain ⟨r32, hc32, hm⟩ := kbind hm
    refine kcV (ws1 := [(a_t, .inr (0, [.ref a_t_deleted, .ref a_t_places])), (a_t_deleted, .inr (3, [.ref a_t_deleted_items, .int r12.2.1])), (a_t_deleted_items, .inl (cI, 14, .inl r12.2.2)), (a_t_places, .inr (3, [.ref a_t_places_items, .int r4.2.1])), (a_t_places_items, .inl (cI, 14, .inl r4.2.2)), (a_o0, .inr (2, [.ref a_o0_row, .int k_o0_knots, .int k_o0_nextStamp])), (a_o0_row, .inr (3, [.ref a_o0_row_items, .int r32.1])), (a_o0_row_items, .inl (cI, 24, .inl r32.2))]) (st1 := []) X hA (c_X3_putBack l G cI cZ cE a_o0 a_o0_row a_o0_row_items k_o0_knots k_o0_nextStamp k_o0_row_size f_o0_row_items r4.1 r12.1 r32 hc32) (cwV 2 hts gX0_undoLast_X3_putBack rfl rfl rfl hd_X3_putBack ⟨Nat.le_of_ble_eq_true rfl, Nat.le_of_ble_eq_true rfl⟩) 5 2 rfl rfl hl.1 dX0_undoLast_32 hP hD hS [5, 6, 7] rfl rfl rfl rfl rfl [] rfl (Nat.le_of_ble_eq_true rfl) rfl ⟨Nat.zero_le _, Nat.zero_le _⟩ (fun H locs hP hD hS => ?_)
    have hm := Option.some.inj hm
    subst hm
    exact k_vret X rfl dX0_undoLast_35 hP hD hS
  · rw [if_pos c19] at hm
    refine lv_aload_n hx hb dX0_undoLast_22 rfl (lv_at hl 3 rfl) ?_
    obtain ⟨r23, hc23, hm⟩ := kbind hm
    refine kcV (ws1 := [(a_t, .inr (0, [.ref a_t_deleted, .ref a_t_places])), (a_t_deleted, .inr (3, [.ref a_t_deleted_items, .int r12.2.1])), (a_t_deleted_items, .inl (cI, 14, .inl r12.2.2)), (a_t_places, .inr (3, [.ref a_t_places_items, .int r4.2.1])), (a_t_places_items, .inl (cI, 14, .inl r4.2.2)), (a_o0, .inr (2, [.ref a_o0_row, .int k_o0_knots, .int r23.1])), (a_o0_row, .inr (3, [.ref a_o0_row_items, .int r23.2.1])), (a_o0_row_items, .inl (cI, 24, .inl r23.2.2))]) (st1 := []) X hA (c_X3_takeBackLast l G cI cZ cE a_o0 a_o0_row a_o0_row_items k_o0_knots k_o0_nextStamp k_o0_row_size f_o0_row_items r23 hc23) (cwV 0 hts gX0_undoLast_X3_takeBackLast rfl rfl rfl hd_X3_takeBackLast ⟨Nat.le_of_ble_eq_true rfl, Nat.le_of_ble_eq_true rfl⟩) 5 2 rfl rfl hl.1 dX0_undoLast_23 hP hD hS [5, 6, 7] rfl rfl rfl rfl rfl [] rfl (Nat.le_of_ble_eq_true rfl) rfl ⟨Nat.zero_le _, Nat.zero_le _⟩ (fun H locs hP hD hS => ?_)
    refine lv_goto (tgt := 35) hx hb dX0_undoLast_26 (by decide) ?_
    have hm := Option.some.inj hm
    subst hm
    exact k_vret X rfl dX0_undoLast_35 hP hD hS
theorem hd_X0_undoLast : yX0_undoLast.cls = RX0 ∧ yX0_undoLast.cls ≠ "java/lang/invoke/MethodHandle" ∧ yX0_undoLast.cls ≠ "java/lang/invoke/VarHandle" ∧ (parseMethodDescriptor yX0_undoLast.desc).map (fun d => d.parameters.length) = some 1 := by decide +kernel
/-! CoverOrder.Edges pair -/
set_option maxRecDepth 100000 in
set_option maxHeartbeats 4000000 in
theorem c_X3_pair (l : Launch) (G : va_G) (cI cZ cE : ClassId) (p0 : Int32) (p1 : Int32) (R : Int32) (hm : mX3_pair p0 p1 = R) : kM l yX3_pair wsX3_pair { frames := 0, cells := 0, slots := 0, locals := 0 } G cI cZ cE [.int p0, .int p1] [] [] (some (.int R)) := by
  refine kM_of cX3_pair 2 (some .int) RX3 (by decide) rfl rfl (Nat.le_of_ble_eq_true rfl) ?_
  intro p e s m below meth c A ls X hA hP hD hS hl
  have hx := X.1.1
  have hb := X.1.2.1
  have hts := X.1.2.2.2.2
  have hown := X.1.2.2.2.1
  have hK := X.2.2.2.1
  have hl : lv_has ls 2 [(0, .int p0), (1, .int p1)] := hl
  rw [mX3_pair] at hm
  refine lv_bipush (v := 10) hx hb dX3_pair_0 (by decide) ?_
  refine lv_iload_n hx hb dX3_pair_2 rfl (lv_at hl 0 rfl) ?_
  refine lv_imul hx hb dX3_pair_3 ?_
  refine lv_iload_n hx hb dX3_pair_4 rfl (lv_at hl 1 rfl) ?_
  refine lv_iadd hx hb dX3_pair_5 ?_
  subst hm
  exact k_iret (v := (10 * p0) + p1) X rfl dX3_pair_6 hP hD hS
theorem hd_X3_pair : yX3_pair.cls ≠ "java/lang/invoke/MethodHandle" ∧ yX3_pair.cls ≠ "java/lang/invoke/VarHandle" ∧ (parseMethodDescriptor yX3_pair.desc).map (fun d => d.parameters.length) = some 2 := by decide +kernel
/-! CoverOrder.Edges pairOf -/
set_option maxRecDepth 100000 in
set_option maxHeartbeats 4000000 in
theorem c_X3_pairOf (l : Launch) (G : va_G) (cI cZ cE : ClassId) (p0 : Int32) (R : Int32) (hm : mX3_pairOf p0 = R) : kM l yX3_pairOf wsX3_pairOf { frames := 0, cells := 0, slots := 0, locals := 0 } G cI cZ cE [.int p0] [] [] (some (.int R)) := by
  refine kM_of cX3_pairOf 1 (some .int) RX3 (by decide) rfl rfl (Nat.le_of_ble_eq_true rfl) ?_
  intro p e s m below meth c A ls X hA hP hD hS hl
  have hx := X.1.1
  have hb := X.1.2.1
  have hts := X.1.2.2.2.2
  have hown := X.1.2.2.2.1
  have hK := X.2.2.2.1
  have hl : lv_has ls 1 [(0, .int p0)] := hl
  rw [mX3_pairOf] at hm
  refine lv_iload_n hx hb dX3_pairOf_0 rfl (lv_at hl 0 rfl) ?_
  refine lv_bipush (v := 100) hx hb dX3_pairOf_1 (by decide) ?_
  refine lv_irem hx hb dX3_pairOf_3 (by decide) ?_
  subst hm
  exact k_iret (v := p0 - p0 / 100 * 100) X rfl dX3_pairOf_4 hP hD hS
theorem hd_X3_pairOf : yX3_pairOf.cls ≠ "java/lang/invoke/MethodHandle" ∧ yX3_pairOf.cls ≠ "java/lang/invoke/VarHandle" ∧ (parseMethodDescriptor yX3_pairOf.desc).map (fun d => d.parameters.length) = some 1 := by decide +kernel
/-! CoverOrder.Edges stampOf -/
set_option maxRecDepth 100000 in
set_option maxHeartbeats 4000000 in
theorem c_X3_stampOf (l : Launch) (G : va_G) (cI cZ cE : ClassId) (p0 : Int32) (R : Int32) (hm : mX3_stampOf p0 = R) : kM l yX3_stampOf wsX3_stampOf { frames := 0, cells := 0, slots := 0, locals := 0 } G cI cZ cE [.int p0] [] [] (some (.int R)) := by
  refine kM_of cX3_stampOf 1 (some .int) RX3 (by decide) rfl rfl (Nat.le_of_ble_eq_true rfl) ?_
  intro p e s m below meth c A ls X hA hP hD hS hl
  have hx := X.1.1
  have hb := X.1.2.1
  have hts := X.1.2.2.2.2
  have hown := X.1.2.2.2.1
  have hK := X.2.2.2.1
  have hl : lv_has ls 1 [(0, .int p0)] := hl
  rw [mX3_stampOf] at hm
  refine lv_iload_n hx hb dX3_stampOf_0 rfl (lv_at hl 0 rfl) ?_
  refine lv_bipush (v := 100) hx hb dX3_stampOf_1 (by decide) ?_
  refine lv_idiv hx hb dX3_stampOf_3 (by decide) ?_
  subst hm
  exact k_iret (v := p0 / 100) X rfl dX3_stampOf_4 hP hD hS
theorem hd_X3_stampOf : yX3_stampOf.cls ≠ "java/lang/invoke/MethodHandle" ∧ yX3_stampOf.cls ≠ "java/lang/invoke/VarHandle" ∧ (parseMethodDescriptor yX3_stampOf.desc).map (fun d => d.parameters.length) = some 1 := by decide +kernel
/-! CoverOrder.Edges restart -/
set_option maxRecDepth 100000 in
set_option maxHeartbeats 4000000 in
theorem c_X3_restart (l : Launch) (G : va_G) (cI cZ cE : ClassId) (a_t a_t_row a_t_row_items : Nat) (k_t_knots : Int32) (k_t_nextStamp : Int32) (k_t_row_size : Int32) (p1 : Int32) (R : Int32 × Int32 × Int32) (hm : mX3_restart k_t_knots k_t_nextStamp k_t_row_size p1 = R) : kM l yX3_restart wsX3_restart { frames := 1, cells := 0, slots := 0, locals := 21 } G cI cZ cE [.ref a_t, .int p1] [(a_t, .inr (2, [.ref a_t_row, .int k_t_knots, .int k_t_nextStamp])), (a_t_row, .inr (3, [.ref a_t_row_items, .int k_t_row_size]))] [(a_t, .inr (2, [.ref a_t_row, .int R.1, .int R.2.1])), (a_t_row, .inr (3, [.ref a_t_row_items, .int R.2.2]))] none := by
  refine kM_of cX3_restart 2 none RX3 (by decide) rfl rfl (Nat.le_of_ble_eq_true rfl) ?_
  intro p e s m below meth c A ls X hA hP hD hS hl
  have hx := X.1.1
  have hb := X.1.2.1
  have hts := X.1.2.2.2.2
  have hown := X.1.2.2.2.1
  have hK := X.2.2.2.1
  have jl_27 : (.methodLink RX3 27 Lib.Math.min.name : Cond).before _ s = true := hts _ (List.mem_of_getElem? (i := 1) (by decide +kernel))
  have js_min : (.static Lib.Math.min.name : Cond).before _ s = true := hts _ (List.mem_of_getElem? (i := 2) (by decide +kernel))
  have ji : (.initialized "java/lang/Math" : Cond).before _ s = true := hts _ (List.mem_of_getElem? (i := 3) (by decide +kernel))
  have jc_min : (.code Lib.Math.min.name Lib.Math.min.code 2 (some .int) : Cond).before _ s = true := hts _ (List.mem_of_getElem? (i := 4) (by decide +kernel))
  have jl_33 : (.methodLink RX3 33 Lib.Math.max.name : Cond).before _ s = true := hts _ (List.mem_of_getElem? (i := 5) (by decide +kernel))
  have js_max : (.static Lib.Math.max.name : Cond).before _ s = true := hts _ (List.mem_of_getElem? (i := 6) (by decide +kernel))
  have jc_max : (.code Lib.Math.max.name Lib.Math.max.code 2 (some .int) : Cond).before _ s = true := hts _ (List.mem_of_getElem? (i := 7) (by decide +kernel))
  have l_20 : (.fieldLink RX3 20 "CoverOrder$Edges" "knots" "I" : Cond).before _ s = true := hts _ (List.mem_of_getElem? (i := 8) (by decide +kernel))
  have i_X3 : ∀ w ∈ u_ws RX3 TX3 3, w ∈ wsX3_restart := k_in _ [17, 18, 19] (by decide +kernel)
  have l_14 : (.fieldLink RX3 14 "CoverOrder$Edges" "row" "LCoverOrder$Row;" : Cond).before _ s = true := hts _ (List.mem_of_getElem? (i := 9) (by decide +kernel))
  have l_24 : (.fieldLink RX3 24 "CoverOrder$Edges" "nextStamp" "I" : Cond).before _ s = true := hts _ (List.mem_of_getElem? (i := 10) (by decide +kernel))
  have hl : lv_has ls 2 [(0, .ref a_t), (1, .int p1)] := hl
  rw [mX3_restart] at hm
  refine lv_aload_n hx hb dX3_restart_0 rfl (lv_at hl 0 rfl) ?_
  refine lv_iconst (v := 1) hx hb dX3_restart_1 (by decide) ?_
  refine lv_iload_n hx hb dX3_restart_2 rfl (lv_at hl 1 rfl) ?_
  refine lv_bipush (v := 8) hx hb dX3_restart_3 (by decide) ?_
  refine va_mmin hx hb (X.1.2.2.1.trans hl.1.symm) hown jl_27 js_min ji jc_min (Nat.le_of_ble_eq_true rfl) (Nat.le_of_ble_eq_true rfl) (Nat.zero_le _) (Nat.zero_le _) dX3_restart_5 ?_
  refine lv_topi (fun j5 ej5 => ?_)
  have ej5 : j5 = mminI p1 8 := ej5
  subst ej5
  refine va_mmax hx hb (X.1.2.2.1.trans hl.1.symm) hown jl_33 js_max ji jc_max (Nat.le_of_ble_eq_true rfl) (Nat.le_of_ble_eq_true rfl) (Nat.zero_le _) (Nat.zero_le _) dX3_restart_8 ?_
  refine lv_topi (fun j8 ej8 => ?_)
  have ej8 : j8 = mmaxI 1 (mminI p1 8) := ej8
  subst ej8
  refine va_put (D := G) (ci := 2) (v := .int (mmaxI 1 (mminI p1 8))) (ty := .int) (C := RX3) (T := TX3) (N := 3) hx hb hts i_X3 tyX3 tyX3_ok nmX3 hown hK hP hD hS 0 rfl rfl 1 (by decide) l_20 (fun _ h9 => h9) rfl (by decide +kernel) rfl rfl (Nat.le_of_ble_eq_true rfl) dX3_restart_11 (fun H locs hP hD hS => ?_)
  have hP : va_P G vwCl [(a_t, .inr (2, [.ref a_t_row, .int (mmaxI 1 (mminI p1 8)), .int k_t_nextStamp])), (a_t_row, .inr (3, [.ref a_t_row_items, .int k_t_row_size]))] H := hP
  have hD : va_D A [(a_t, .inr (2, [.ref a_t_row, .int (mmaxI 1 (mminI p1 8)), .int k_t_nextStamp])), (a_t_row, .inr (3, [.ref a_t_row_items, .int k_t_row_size]))] := hD
  refine lv_aload_n hx hb dX3_restart_14 rfl (lv_at hl 0 rfl) ?_
  refine va_get (D := G) (ci := 2) (v := .ref a_t_row) (C := RX3) (T := TX3) (N := 3) hx hb hts i_X3 hown hK hP 0 rfl rfl 0 (by decide) l_14 (fun _ h9 => h9) rfl dX3_restart_15 ?_
  refine kcV (ws1 := [(a_t, .inr (2, [.ref a_t_row, .int (mmaxI 1 (mminI p1 8)), .int k_t_nextStamp])), (a_t_row, .inr (3, [.ref a_t_row_items, .int (mX6_clear k_t_row_size)]))]) (st1 := []) X hA (c_X6_clear l G cI cZ cE a_t_row a_t_row_items k_t_row_size _ rfl) (cwV 0 hts gX3_restart_X6_clear rfl rfl rfl hd_X6_clear ⟨Nat.le_of_ble_eq_true rfl, Nat.le_of_ble_eq_true rfl⟩) 1 3 rfl rfl hl.1 dX3_restart_18 hP hD hS [1] rfl rfl rfl rfl rfl [] rfl (Nat.le_of_ble_eq_true rfl) rfl ⟨Nat.zero_le _, Nat.zero_le _⟩ (fun H locs hP hD hS => ?_)
  refine lv_aload_n hx hb dX3_restart_21 rfl (lv_at hl 0 rfl) ?_
  refine lv_iconst (v := 1) hx hb dX3_restart_22 (by decide) ?_
  refine va_put (D := G) (ci := 2) (v := .int 1) (ty := .int) (C := RX3) (T := TX3) (N := 3) hx hb hts i_X3 tyX3 tyX3_ok nmX3 hown hK hP hD hS 0 rfl rfl 2 (by decide) l_24 (fun _ h9 => h9) rfl (by decide +kernel) rfl rfl (Nat.le_of_ble_eq_true rfl) dX3_restart_23 (fun H locs hP hD hS => ?_)
  have hP : va_P G vwCl [(a_t, .inr (2, [.ref a_t_row, .int (mmaxI 1 (mminI p1 8)), .int 1])), (a_t_row, .inr (3, [.ref a_t_row_items, .int (mX6_clear k_t_row_size)]))] H := hP
  have hD : va_D A [(a_t, .inr (2, [.ref a_t_row, .int (mmaxI 1 (mminI p1 8)), .int 1])), (a_t_row, .inr (3, [.ref a_t_row_items, .int (mX6_clear k_t_row_size)]))] := hD
  subst hm
  exact k_vret X rfl dX3_restart_26 hP hD hS
theorem hd_X3_restart : yX3_restart.cls = RX3 ∧ yX3_restart.cls ≠ "java/lang/invoke/MethodHandle" ∧ yX3_restart.cls ≠ "java/lang/invoke/VarHandle" ∧ (parseMethodDescriptor yX3_restart.desc).map (fun d => d.parameters.length) = some 1 := by decide +kernel
/-! CoverOrder.Edges copy -/
set_option maxRecDepth 100000 in
set_option maxHeartbeats 4000000 in
theorem c_X3_copy (l : Launch) (G : va_G) (cI cZ cE : ClassId) (a_t a_t_row a_t_row_items a_o0 a_o0_row a_o0_row_items : Nat) (k_t_knots : Int32) (k_t_nextStamp : Int32) (k_t_row_size : Int32) (f_t_row_items : Nat → Int32) (k_o0_knots : Int32) (k_o0_nextStamp : Int32) (k_o0_row_size : Int32) (f_o0_row_items : Nat → Int32) (R : Int32 × Int32 × Int32 × (Nat → Int32)) (hm : mX3_copy k_t_knots k_t_nextStamp k_t_row_size f_t_row_items k_o0_knots k_o0_nextStamp k_o0_row_size f_o0_row_items = some R) : kM l yX3_copy wsX3_copy { frames := 4, cells := 0, slots := 0, locals := 86 } G cI cZ cE [.ref a_t, .ref a_o0] [(a_t, .inr (2, [.ref a_t_row, .int k_t_knots, .int k_t_nextStamp])), (a_t_row, .inr (3, [.ref a_t_row_items, .int k_t_row_size])), (a_t_row_items, .inl (cI, 24, .inl f_t_row_items)), (a_o0, .inr (2, [.ref a_o0_row, .int k_o0_knots, .int k_o0_nextStamp])), (a_o0_row, .inr (3, [.ref a_o0_row_items, .int k_o0_row_size])), (a_o0_row_items, .inl (cI, 24, .inl f_o0_row_items))] [(a_t, .inr (2, [.ref a_t_row, .int R.1, .int R.2.1])), (a_t_row, .inr (3, [.ref a_t_row_items, .int R.2.2.1])), (a_t_row_items, .inl (cI, 24, .inl R.2.2.2)), (a_o0, .inr (2, [.ref a_o0_row, .int k_o0_knots, .int k_o0_nextStamp])), (a_o0_row, .inr (3, [.ref a_o0_row_items, .int k_o0_row_size])), (a_o0_row_items, .inl (cI, 24, .inl f_o0_row_items))] none := by
  refine kM_of cX3_copy 2 none RX3 (by decide) rfl rfl (Nat.le_of_ble_eq_true rfl) ?_
  intro p e s m below meth c A ls X hA hP hD hS hl
  have hx := X.1.1
  have hb := X.1.2.1
  have hts := X.1.2.2.2.2
  have hown := X.1.2.2.2.1
  have hK := X.2.2.2.1
  have l_20 : (.fieldLink RX3 20 "CoverOrder$Edges" "knots" "I" : Cond).before _ s = true := hts _ (List.mem_of_getElem? (i := 1) (by decide +kernel))
  have i_X3 : ∀ w ∈ u_ws RX3 TX3 3, w ∈ wsX3_copy := k_in _ [31, 32, 33] (by decide +kernel)
  have l_14 : (.fieldLink RX3 14 "CoverOrder$Edges" "row" "LCoverOrder$Row;" : Cond).before _ s = true := hts _ (List.mem_of_getElem? (i := 2) (by decide +kernel))
  have l_24 : (.fieldLink RX3 24 "CoverOrder$Edges" "nextStamp" "I" : Cond).before _ s = true := hts _ (List.mem_of_getElem? (i := 3) (by decide +kernel))
  have hl : lv_has ls 2 [(0, .ref a_t), (1, .ref a_o0)] := hl
  rw [mX3_copy] at hm
  refine lv_aload_n hx hb dX3_copy_0 rfl (lv_at hl 0 rfl) ?_
  refine lv_aload_n hx hb dX3_copy_1 rfl (lv_at hl 1 rfl) ?_
  refine va_get (D := G) (ci := 2) (v := .int k_o0_knots) (C := RX3) (T := TX3) (N := 3) hx hb hts i_X3 hown hK hP 3 rfl rfl 1 (by decide) l_20 (fun _ h9 => h9) rfl dX3_copy_2 ?_
  refine va_put (D := G) (ci := 2) (v := .int k_o0_knots) (ty := .int) (C := RX3) (T := TX3) (N := 3) hx hb hts i_X3 tyX3 tyX3_ok nmX3 hown hK hP hD hS 0 rfl rfl 1 (by decide) l_20 (fun _ h9 => h9) rfl (by decide +kernel) rfl rfl (Nat.le_of_ble_eq_true rfl) dX3_copy_5 (fun H locs hP hD hS => ?_)
  have hP : va_P G vwCl [(a_t, .inr (2, [.ref a_t_row, .int k_o0_knots, .int k_t_nextStamp])), (a_t_row, .inr (3, [.ref a_t_row_items, .int k_t_row_size])), (a_t_row_items, .inl (cI, 24, .inl f_t_row_items)), (a_o0, .inr (2, [.ref a_o0_row, .int k_o0_knots, .int k_o0_nextStamp])), (a_o0_row, .inr (3, [.ref a_o0_row_items, .int k_o0_row_size])), (a_o0_row_items, .inl (cI, 24, .inl f_o0_row_items))] H := hP
  have hD : va_D A [(a_t, .inr (2, [.ref a_t_row, .int k_o0_knots, .int k_t_nextStamp])), (a_t_row, .inr (3, [.ref a_t_row_items, .int k_t_row_size])), (a_t_row_items, .inl (cI, 24, .inl f_t_row_items)), (a_o0, .inr (2, [.ref a_o0_row, .int k_o0_knots, .int k_o0_nextStamp])), (a_o0_row, .inr (3, [.ref a_o0_row_items, .int k_o0_row_size])), (a_o0_row_items, .inl (cI, 24, .inl f_o0_row_items))] := hD
  refine lv_aload_n hx hb dX3_copy_8 rfl (lv_at hl 0 rfl) ?_
  refine va_get (D := G) (ci := 2) (v := .ref a_t_row) (C := RX3) (T := TX3) (N := 3) hx hb hts i_X3 hown hK hP 0 rfl rfl 0 (by decide) l_14 (fun _ h9 => h9) rfl dX3_copy_9 ?_
  refine lv_aload_n hx hb dX3_copy_12 rfl (lv_at hl 1 rfl) ?_
  refine va_get (D := G) (ci := 2) (v := .ref a_o0_row) (C := RX3) (T := TX3) (N := 3) hx hb hts i_X3 hown hK hP 3 rfl rfl 0 (by decide) l_14 (fun _ h9 => h9) rfl dX3_copy_13 ?_
  obtain ⟨r16, hc16, hm⟩ := kbind hm
  refine kcV (ws1 := [(a_t, .inr (2, [.ref a_t_row, .int k_o0_knots, .int k_t_nextStamp])), (a_t_row, .inr (3, [.ref a_t_row_items, .int r16.1])), (a_t_row_items, .inl (cI, 24, .inl r16.2)), (a_o0, .inr (2, [.ref a_o0_row, .int k_o0_knots, .int k_o0_nextStamp])), (a_o0_row, .inr (3, [.ref a_o0_row_items, .int k_o0_row_size])), (a_o0_row_items, .inl (cI, 24, .inl f_o0_row_items))]) (st1 := []) X hA (c_X6_copy l G cI cZ cE a_t_row a_t_row_items a_o0_row a_o0_row_items 24 24 k_t_row_size f_t_row_items k_o0_row_size f_o0_row_items r16 hc16) (cwV 1 hts gX3_copy_X6_copy rfl rfl rfl hd_X6_copy ⟨Nat.le_of_ble_eq_true rfl, Nat.le_of_ble_eq_true rfl⟩) 1 3 rfl rfl hl.1 dX3_copy_16 hP hD hS [1, 2, 4, 5] rfl rfl rfl rfl rfl [] rfl (Nat.le_of_ble_eq_true rfl) rfl ⟨Nat.zero_le _, Nat.zero_le _⟩ (fun H locs hP hD hS => ?_)
  refine lv_aload_n hx hb dX3_copy_19 rfl (lv_at hl 0 rfl) ?_
  refine lv_aload_n hx hb dX3_copy_20 rfl (lv_at hl 1 rfl) ?_
  refine va_get (D := G) (ci := 2) (v := .int k_o0_nextStamp) (C := RX3) (T := TX3) (N := 3) hx hb hts i_X3 hown hK hP 3 rfl rfl 2 (by decide) l_24 (fun _ h9 => h9) rfl dX3_copy_21 ?_
  refine va_put (D := G) (ci := 2) (v := .int k_o0_nextStamp) (ty := .int) (C := RX3) (T := TX3) (N := 3) hx hb hts i_X3 tyX3 tyX3_ok nmX3 hown hK hP hD hS 0 rfl rfl 2 (by decide) l_24 (fun _ h9 => h9) rfl (by decide +kernel) rfl rfl (Nat.le_of_ble_eq_true rfl) dX3_copy_24 (fun H locs hP hD hS => ?_)
  have hP : va_P G vwCl [(a_t, .inr (2, [.ref a_t_row, .int k_o0_knots, .int k_o0_nextStamp])), (a_t_row, .inr (3, [.ref a_t_row_items, .int r16.1])), (a_t_row_items, .inl (cI, 24, .inl r16.2)), (a_o0, .inr (2, [.ref a_o0_row, .int k_o0_knots, .int k_o0_nextStamp])), (a_o0_row, .inr (3, [.ref a_o0_row_items, .int k_o0_row_size])), (a_o0_row_items, .inl (cI, 24, .inl f_o0_row_items))] H := hP
  have hD : va_D A [(a_t, .inr (2, [.ref a_t_row, .int k_o0_knots, .int k_o0_nextStamp])), (a_t_row, .inr (3, [.ref a_t_row_items, .int r16.1])), (a_t_row_items, .inl (cI, 24, .inl r16.2)), (a_o0, .inr (2, [.ref a_o0_row, .int k_o0_knots, .int k_o0_nextStamp])), (a_o0_row, .inr (3, [.ref a_o0_row_items, .int k_o0_row_size])), (a_o0_row_items, .inl (cI, 24, .inl f_o0_row_items))] := hD
  have hm := Option.some.inj hm
  subst hm
  exact k_vret X rfl dX3_copy_27 hP hD hS
theorem hd_X3_copy : yX3_copy.cls = RX3 ∧ yX3_copy.cls ≠ "java/lang/invoke/MethodHandle" ∧ yX3_copy.cls ≠ "java/lang/invoke/VarHandle" ∧ (parseMethodDescriptor yX3_copy.desc).map (fun d => d.parameters.length) = some 1 := by decide +kernel
/-! CoverOrder.Edges size -/
set_option maxRecDepth 100000 in
set_option maxHeartbeats 4000000 in
theorem c_X3_size (l : Launch) (G : va_G) (cI cZ cE : ClassId) (a_t a_t_row a_t_row_items : Nat) (k_t_knots : Int32) (k_t_nextStamp : Int32) (k_t_row_size : Int32) (R : Int32) (hm : mX3_size k_t_row_size = R) : kM l yX3_size wsX3_size { frames := 1, cells := 0, slots := 0, locals := 20 } G cI cZ cE [.ref a_t] [(a_t, .inr (2, [.ref a_t_row, .int k_t_knots, .int k_t_nextStamp])), (a_t_row, .inr (3, [.ref a_t_row_items, .int k_t_row_size]))] [(a_t, .inr (2, [.ref a_t_row, .int k_t_knots, .int k_t_nextStamp])), (a_t_row, .inr (3, [.ref a_t_row_items, .int k_t_row_size]))] (some (.int R)) := by
  refine kM_of cX3_size 1 (some .int) RX3 (by decide) rfl rfl (Nat.le_of_ble_eq_true rfl) ?_
  intro p e s m below meth c A ls X hA hP hD hS hl
  have hx := X.1.1
  have hb := X.1.2.1
  have hts := X.1.2.2.2.2
  have hown := X.1.2.2.2.1
  have hK := X.2.2.2.1
  have l_14 : (.fieldLink RX3 14 "CoverOrder$Edges" "row" "LCoverOrder$Row;" : Cond).before _ s = true := hts _ (List.mem_of_getElem? (i := 1) (by decide +kernel))
  have i_X3 : ∀ w ∈ u_ws RX3 TX3 3, w ∈ wsX3_size := k_in _ [8, 9, 10] (by decide +kernel)
  have hl : lv_has ls 1 [(0, .ref a_t)] := hl
  rw [mX3_size] at hm
  refine lv_aload_n hx hb dX3_size_0 rfl (lv_at hl 0 rfl) ?_
  refine va_get (D := G) (ci := 2) (v := .ref a_t_row) (C := RX3) (T := TX3) (N := 3) hx hb hts i_X3 hown hK hP 0 rfl rfl 0 (by decide) l_14 (fun _ h9 => h9) rfl dX3_size_1 ?_
  refine kcV0 (st1 := [.int (mX6_size k_t_row_size)]) X hA (c_X6_size l G cI cZ cE a_t_row a_t_row_items k_t_row_size _ rfl) (cwV 0 hts gX3_size_X6_size rfl rfl rfl hd_X6_size ⟨Nat.le_of_ble_eq_true rfl, Nat.le_of_ble_eq_true rfl⟩) 1 3 rfl rfl hl.1 dX3_size_4 hP hD hS [1] rfl rfl rfl [] rfl (Nat.le_of_ble_eq_true rfl) rfl ⟨Nat.zero_le _, Nat.zero_le _⟩ (fun H locs hP hD hS => ?_)
  subst hm
  exact k_iret (v := (mX6_size k_t_row_size)) X rfl dX3_size_7 hP hD hS
theorem hd_X3_size : yX3_size.cls = RX3 ∧ yX3_size.cls ≠ "java/lang/invoke/MethodHandle" ∧ yX3_size.cls ≠ "java/lang/invoke/VarHandle" ∧ (parseMethodDescriptor yX3_size.desc).map (fun d => d.parameters.length) = some 0 := by decide +kernel
/-! CoverOrder.Edges isFull -/
set_option maxRecDepth 100000 in
set_option maxHeartbeats 4000000 in
theorem c_X3_isFull (l : Launch) (G : va_G) (cI cZ cE : ClassId) (a_t a_t_row a_t_row_items : Nat) (k_t_knots : Int32) (k_t_nextStamp : Int32) (k_t_row_size : Int32) (f_t_row_items : Nat → Int32) (R : Bool) (hm : mX3_isFull k_t_row_size = R) : kM l yX3_isFull wsX3_isFull { frames := 1, cells := 0, slots := 0, locals := 20 } G cI cZ cE [.ref a_t] [(a_t, .inr (2, [.ref a_t_row, .int k_t_knots, .int k_t_nextStamp])), (a_t_row, .inr (3, [.ref a_t_row_items, .int k_t_row_size])), (a_t_row_items, .inl (cI, 24, .inl f_t_row_items))] [(a_t, .inr (2, [.ref a_t_row, .int k_t_knots, .int k_t_nextStamp])), (a_t_row, .inr (3, [.ref a_t_row_items, .int k_t_row_size])), (a_t_row_items, .inl (cI, 24, .inl f_t_row_items))] (some (.int (bI R))) := by
  refine kM_of cX3_isFull 1 (some .boolean) RX3 (by decide) rfl rfl (Nat.le_of_ble_eq_true rfl) ?_
  intro p e s m below meth c A ls X hA hP hD hS hl
  have hx := X.1.1
  have hb := X.1.2.1
  have hts := X.1.2.2.2.2
  have hown := X.1.2.2.2.1
  have hK := X.2.2.2.1
  have l_14 : (.fieldLink RX3 14 "CoverOrder$Edges" "row" "LCoverOrder$Row;" : Cond).before _ s = true := hts _ (List.mem_of_getElem? (i := 1) (by decide +kernel))
  have i_X3 : ∀ w ∈ u_ws RX3 TX3 3, w ∈ wsX3_isFull := k_in _ [9, 10, 11] (by decide +kernel)
  have hl : lv_has ls 1 [(0, .ref a_t)] := hl
  rw [mX3_isFull] at hm
  refine lv_aload_n hx hb dX3_isFull_0 rfl (lv_at hl 0 rfl) ?_
  refine va_get (D := G) (ci := 2) (v := .ref a_t_row) (C := RX3) (T := TX3) (N := 3) hx hb hts i_X3 hown hK hP 0 rfl rfl 0 (by decide) l_14 (fun _ h9 => h9) rfl dX3_isFull_1 ?_
  refine kcV0 (st1 := [.int (bI (mX6_isFull 24 k_t_row_size))]) X hA (c_X6_isFull l G cI cZ cE a_t_row a_t_row_items 24 k_t_row_size f_t_row_items _ rfl) (cwV 0 hts gX3_isFull_X6_isFull rfl rfl rfl hd_X6_isFull ⟨Nat.le_of_ble_eq_true rfl, Nat.le_of_ble_eq_true rfl⟩) 1 3 rfl rfl hl.1 dX3_isFull_4 hP hD hS [1, 2] rfl rfl rfl [] rfl (Nat.le_of_ble_eq_true rfl) rfl ⟨Nat.zero_le _, Nat.zero_le _⟩ (fun H locs hP hD hS => ?_)
  subst hm
  exact k_zret (v := (mX6_isFull 24 k_t_row_size)) X rfl dX3_isFull_7 hP hD hS
theorem hd_X3_isFull : yX3_isFull.cls = RX3 ∧ yX3_isFull.cls ≠ "java/lang/invoke/MethodHandle" ∧ yX3_isFull.cls ≠ "java/lang/invoke/VarHandle" ∧ (parseMethodDescriptor yX3_isFull.desc).map (fun d => d.parameters.length) = some 0 := by decide +kernel
/-! CoverOrder.Edges isKnot -/
set_option maxRecDepth 100000 in
set_option maxHeartbeats 4000000 in
theorem c_X3_isKnot (l : Launch) (G : va_G) (cI cZ cE : ClassId) (a_t a_t_row : Nat) (k_t_knots : Int32) (k_t_nextStamp : Int32) (p1 : Int32) (R : Bool) (hm : mX3_isKnot k_t_knots p1 = R) : kM l yX3_isKnot wsX3_isKnot { frames := 0, cells := 0, slots := 0, locals := 0 } G cI cZ cE [.ref a_t, .int p1] [(a_t, .inr (2, [.ref a_t_row, .int k_t_knots, .int k_t_nextStamp]))] [(a_t, .inr (2, [.ref a_t_row, .int k_t_knots, .int k_t_nextStamp]))] (some (.int (bI R))) := by
  refine kM_of cX3_isKnot 2 (some .boolean) RX3 (by decide) rfl rfl (Nat.le_of_ble_eq_true rfl) ?_
  intro p e s m below meth c A ls X hA hP hD hS hl
  have hx := X.1.1
  have hb := X.1.2.1
  have hts := X.1.2.2.2.2
  have hown := X.1.2.2.2.1
  have hK := X.2.2.2.1
  have l_20 : (.fieldLink RX3 20 "CoverOrder$Edges" "knots" "I" : Cond).before _ s = true := hts _ (List.mem_of_getElem? (i := 1) (by decide +kernel))
  have i_X3 : ∀ w ∈ u_ws RX3 TX3 3, w ∈ wsX3_isKnot := k_in _ [2, 3, 4] (by decide +kernel)
  have hl : lv_has ls 2 [(0, .ref a_t), (1, .int p1)] := hl
  rw [mX3_isKnot] at hm
  refine lv_iload_n hx hb dX3_isKnot_0 rfl (lv_at hl 1 rfl) ?_
  refine lv_if_lt (tgt := 16) hx hb dX3_isKnot_1 (by decide) (fun c1 => ?_) (fun c1 => ?_)
  · rw [if_pos c1] at hm
    refine lv_iconst (v := 0) hx hb dX3_isKnot_16 (by decide) ?_
    subst hm
    exact k_zret (v := false) X rfl dX3_isKnot_17 hP hD hS
  · rw [if_neg c1] at hm
    refine lv_iload_n hx hb dX3_isKnot_4 rfl (lv_at hl 1 rfl) ?_
    refine lv_aload_n hx hb dX3_isKnot_5 rfl (lv_at hl 0 rfl) ?_
    refine va_get (D := G) (ci := 2) (v := .int k_t_knots) (C := RX3) (T := TX3) (N := 3) hx hb hts i_X3 hown hK hP 0 rfl rfl 1 (by decide) l_20 (fun _ h9 => h9) rfl dX3_isKnot_6 ?_
    refine lv_icmp_ge (tgt := 16) hx hb dX3_isKnot_9 (by decide) (fun c9 => ?_) (fun c9 => ?_)
    · rw [if_pos c9] at hm
      refine lv_iconst (v := 0) hx hb dX3_isKnot_16 (by decide) ?_
      subst hm
      exact k_zret (v := false) X rfl dX3_isKnot_17 hP hD hS
    · rw [if_neg c9] at hm
      refine lv_iconst (v := 1) hx hb dX3_isKnot_12 (by decide) ?_
      refine lv_goto (tgt := 17) hx hb dX3_isKnot_13 (by decide) ?_
      subst hm
      exact k_zret (v := true) X rfl dX3_isKnot_17 hP hD hS
theorem hd_X3_isKnot : yX3_isKnot.cls = RX3 ∧ yX3_isKnot.cls ≠ "java/lang/invoke/MethodHandle" ∧ yX3_isKnot.cls ≠ "java/lang/invoke/VarHandle" ∧ (parseMethodDescriptor yX3_isKnot.desc).map (fun d => d.parameters.length) = some 1 := by decide +kernel
/-! CoverOrder.Edges areKnots -/
set_option maxRecDepth 100000 in
set_option maxHeartbeats 4000000 in
theorem c_X3_areKnots (l : Launch) (G : va_G) (cI cZ cE : ClassId) (a_t a_t_row : Nat) (k_t_knots : Int32) (k_t_nextStamp : Int32) (p1 : Int32) (p2 : Int32) (R : Bool) (hm : mX3_areKnots k_t_knots p1 p2 = R) : kM l yX3_areKnots wsX3_areKnots { frames := 1, cells := 0, slots := 0, locals := 21 } G cI cZ cE [.ref a_t, .int p1, .int p2] [(a_t, .inr (2, [.ref a_t_row, .int k_t_knots, .int k_t_nextStamp]))] [(a_t, .inr (2, [.ref a_t_row, .int k_t_knots, .int k_t_nextStamp]))] (some (.int (bI R))) := by
  refine kM_of cX3_areKnots 3 (some .boolean) RX3 (by decide) rfl rfl (Nat.le_of_ble_eq_true rfl) ?_
  intro p e s m below meth c A ls X hA hP hD hS hl
  have hx := X.1.1
  have hb := X.1.2.1
  have hts := X.1.2.2.2.2
  have hown := X.1.2.2.2.1
  have hK := X.2.2.2.1
  have hl : lv_has ls 3 [(0, .ref a_t), (1, .int p1), (2, .int p2)] := hl
  rw [mX3_areKnots] at hm
  refine lv_aload_n hx hb dX3_areKnots_0 rfl (lv_at hl 0 rfl) ?_
  refine lv_iload_n hx hb dX3_areKnots_1 rfl (lv_at hl 1 rfl) ?_
  refine kcV0 (st1 := [.int (bI (mX3_isKnot k_t_knots p1))]) X hA (c_X3_isKnot l G cI cZ cE a_t a_t_row k_t_knots k_t_nextStamp p1 _ rfl) (cwV 1 hts gX3_areKnots_X3_isKnot rfl rfl rfl hd_X3_isKnot ⟨Nat.le_of_ble_eq_true rfl, Nat.le_of_ble_eq_true rfl⟩) 0 2 rfl rfl hl.1 dX3_areKnots_2 hP hD hS [0] rfl rfl rfl [] rfl (Nat.le_of_ble_eq_true rfl) rfl ⟨Nat.zero_le _, Nat.zero_le _⟩ (fun H locs hP hD hS => ?_)
  refine lv_if_eq (tgt := 20) hx hb dX3_areKnots_5 (by decide) (fun c5 => ?_) (fun c5 => ?_)
  · have c5 := kb0 c5
    rw [if_neg c5] at hm
    refine lv_iconst (v := 0) hx hb dX3_areKnots_20 (by decide) ?_
    subst hm
    exact k_zret (v := false) X rfl dX3_areKnots_21 hP hD hS
  · have c5 := kb1 c5
    rw [if_pos c5] at hm
    refine lv_aload_n hx hb dX3_areKnots_8 rfl (lv_at hl 0 rfl) ?_
    refine lv_iload_n hx hb dX3_areKnots_9 rfl (lv_at hl 2 rfl) ?_
    refine kcV0 (st1 := [.int (bI (mX3_isKnot k_t_knots p2))]) X hA (c_X3_isKnot l G cI cZ cE a_t a_t_row k_t_knots k_t_nextStamp p2 _ rfl) (cwV 1 hts gX3_areKnots_X3_isKnot rfl rfl rfl hd_X3_isKnot ⟨Nat.le_of_ble_eq_true rfl, Nat.le_of_ble_eq_true rfl⟩) 0 2 rfl rfl hl.1 dX3_areKnots_10 hP hD hS [0] rfl rfl rfl [] rfl (Nat.le_of_ble_eq_true rfl) rfl ⟨Nat.zero_le _, Nat.zero_le _⟩ (fun H locs hP hD hS => ?_)
    refine lv_if_eq (tgt := 20) hx hb dX3_areKnots_13 (by decide) (fun c13 => ?_) (fun c13 => ?_)
    · have c13 := kb0 c13
      rw [if_neg c13] at hm
      refine lv_iconst (v := 0) hx hb dX3_areKnots_20 (by decide) ?_
      subst hm
      exact k_zret (v := false) X rfl dX3_areKnots_21 hP hD hS
    · have c13 := kb1 c13
      rw [if_pos c13] at hm
      refine lv_iconst (v := 1) hx hb dX3_areKnots_16 (by decide) ?_
      refine lv_goto (tgt := 21) hx hb dX3_areKnots_17 (by decide) ?_
      subst hm
      exact k_zret (v := true) X rfl dX3_areKnots_21 hP hD hS
theorem hd_X3_areKnots : yX3_areKnots.cls = RX3 ∧ yX3_areKnots.cls ≠ "java/lang/invoke/MethodHandle" ∧ yX3_areKnots.cls ≠ "java/lang/invoke/VarHandle" ∧ (parseMethodDescriptor yX3_areKnots.desc).map (fun d => d.parameters.length) = some 2 := by decide +kernel
/-! CoverOrder.Edges at -/
set_option maxRecDepth 100000 in
set_option maxHeartbeats 4000000 in
theorem c_X3_at (l : Launch) (G : va_G) (cI cZ cE : ClassId) (a_t a_t_row a_t_row_items : Nat) (k_t_knots : Int32) (k_t_nextStamp : Int32) (k_t_row_size : Int32) (f_t_row_items : Nat → Int32) (p1 : Int32) (R : Int32) (hm : mX3_at k_t_row_size f_t_row_items p1 = R) : kM l yX3_at wsX3_at { frames := 1, cells := 0, slots := 0, locals := 21 } G cI cZ cE [.ref a_t, .int p1] [(a_t, .inr (2, [.ref a_t_row, .int k_t_knots, .int k_t_nextStamp])), (a_t_row, .inr (3, [.ref a_t_row_items, .int k_t_row_size])), (a_t_row_items, .inl (cI, 24, .inl f_t_row_items))] [(a_t, .inr (2, [.ref a_t_row, .int k_t_knots, .int k_t_nextStamp])), (a_t_row, .inr (3, [.ref a_t_row_items, .int k_t_row_size])), (a_t_row_items, .inl (cI, 24, .inl f_t_row_items))] (some (.int R)) := by
  refine kM_of cX3_at 2 (some .int) RX3 (by decide) rfl rfl (Nat.le_of_ble_eq_true rfl) ?_
  intro p e s m below meth c A ls X hA hP hD hS hl
  have hx := X.1.1
  have hb := X.1.2.1
  have hts := X.1.2.2.2.2
  have hown := X.1.2.2.2.1
  have hK := X.2.2.2.1
  have l_14 : (.fieldLink RX3 14 "CoverOrder$Edges" "row" "LCoverOrder$Row;" : Cond).before _ s = true := hts _ (List.mem_of_getElem? (i := 1) (by decide +kernel))
  have i_X3 : ∀ w ∈ u_ws RX3 TX3 3, w ∈ wsX3_at := k_in _ [9, 10, 11] (by decide +kernel)
  have hl : lv_has ls 2 [(0, .ref a_t), (1, .int p1)] := hl
  rw [mX3_at] at hm
  refine lv_aload_n hx hb dX3_at_0 rfl (lv_at hl 0 rfl) ?_
  refine va_get (D := G) (ci := 2) (v := .ref a_t_row) (C := RX3) (T := TX3) (N := 3) hx hb hts i_X3 hown hK hP 0 rfl rfl 0 (by decide) l_14 (fun _ h9 => h9) rfl dX3_at_1 ?_
  refine lv_iload_n hx hb dX3_at_4 rfl (lv_at hl 1 rfl) ?_
  refine kcV0 (st1 := [.int (mX6_at 24 k_t_row_size f_t_row_items p1)]) X hA (c_X6_at l G cI cZ cE a_t_row a_t_row_items 24 k_t_row_size f_t_row_items p1 _ rfl) (cwV 1 hts gX3_at_X6_at rfl rfl rfl hd_X6_at ⟨Nat.le_of_ble_eq_true rfl, Nat.le_of_ble_eq_true rfl⟩) 1 3 rfl rfl hl.1 dX3_at_5 hP hD hS [1, 2] rfl rfl rfl [] rfl (Nat.le_of_ble_eq_true rfl) rfl ⟨Nat.zero_le _, Nat.zero_le _⟩ (fun H locs hP hD hS => ?_)
  subst hm
  exact k_iret (v := (mX6_at 24 k_t_row_size f_t_row_items p1)) X rfl dX3_at_8 hP hD hS
theorem hd_X3_at : yX3_at.cls = RX3 ∧ yX3_at.cls ≠ "java/lang/invoke/MethodHandle" ∧ yX3_at.cls ≠ "java/lang/invoke/VarHandle" ∧ (parseMethodDescriptor yX3_at.desc).map (fun d => d.parameters.length) = some 1 := by decide +kernel
/-! CoverOrder.Edges placeOf -/
set_option maxRecDepth 100000 in
set_option maxHeartbeats 4000000 in
theorem c_X3_placeOf (l : Launch) (G : va_G) (cI cZ cE : ClassId) (a_t a_t_row a_t_row_items : Nat) (k_t_knots : Int32) (k_t_nextStamp : Int32) (k_t_row_size : Int32) (f_t_row_items : Nat → Int32) (p1 : Int32) (p2 : Int32) (R : Int32) (hm : mX3_placeOf k_t_row_size f_t_row_items p1 p2 = some R) : kM l yX3_placeOf wsX3_placeOf { frames := 1, cells := 0, slots := 0, locals := 21 } G cI cZ cE [.ref a_t, .int p1, .int p2] [(a_t, .inr (2, [.ref a_t_row, .int k_t_knots, .int k_t_nextStamp])), (a_t_row, .inr (3, [.ref a_t_row_items, .int k_t_row_size])), (a_t_row_items, .inl (cI, 24, .inl f_t_row_items))] [(a_t, .inr (2, [.ref a_t_row, .int k_t_knots, .int k_t_nextStamp])), (a_t_row, .inr (3, [.ref a_t_row_items, .int k_t_row_size])), (a_t_row_items, .inl (cI, 24, .inl f_t_row_items))] (some (.int R)) := by
  refine kM_of cX3_placeOf 4 (some .int) RX3 (by decide) rfl rfl (Nat.le_of_ble_eq_true rfl) ?_
  intro p e s m below meth c A ls X hA hP hD hS hl
  have hx := X.1.1
  have hb := X.1.2.1
  have hts := X.1.2.2.2.2
  have hown := X.1.2.2.2.1
  have hK := X.2.2.2.1
  have l_14 : (.fieldLink RX3 14 "CoverOrder$Edges" "row" "LCoverOrder$Row;" : Cond).before _ s = true := hts _ (List.mem_of_getElem? (i := 1) (by decide +kernel))
  have i_X3 : ∀ w ∈ u_ws RX3 TX3 3, w ∈ wsX3_placeOf := k_in _ [20, 21, 22] (by decide +kernel)
  have hl : lv_has ls 4 [(0, .ref a_t), (1, .int p1), (2, .int p2)] := hl
  rw [mX3_placeOf] at hm
  refine lv_iconst (v := 0) hx hb dX3_placeOf_0 (by decide) ?_
  refine lv_istore_n (lv' := [(3, .int 0), (0, .ref a_t), (1, .int p1), (2, .int p2)]) hx hb dX3_placeOf_1 rfl hl (by decide) rfl (fun ls hl => ?_)
  have h2 : ∀ (n2 : Nat), ∀ (v2_3 : Int32) (H : Heap) (locs : List Loc) (ls : Array Slot), va_P G vwCl [(a_t, .inr (2, [.ref a_t_row, .int k_t_knots, .int k_t_nextStamp])), (a_t_row, .inr (3, [.ref a_t_row_items, .int k_t_row_size])), (a_t_row_items, .inl (cI, 24, .inl f_t_row_items))] H → va_D A [(a_t, .inr (2, [.ref a_t_row, .int k_t_knots, .int k_t_nextStamp])), (a_t_row, .inr (3, [.ref a_t_row_items, .int k_t_row_size])), (a_t_row_items, .inl (cI, 24, .inl f_t_row_items))] → va_S A s.heap H locs → lv_has ls 4 [(0, .ref a_t), (1, .int p1), (2, .int p2), (3, .int v2_3)] → mX3_placeOf_L2 k_t_row_size f_t_row_items p1 p2 n2 v2_3 = some R → W p l e { frames := 1, cells := 0, slots := 0, locals := 21 } s m ([.ref a_t, .int p1, .int p2] : List Value).toArray below meth c H locs 0 0 (kQ below G [(a_t, .inr (2, [.ref a_t_row, .int k_t_knots, .int k_t_nextStamp])), (a_t_row, .inr (3, [.ref a_t_row_items, .int k_t_row_size])), (a_t_row_items, .inl (cI, 24, .inl f_t_row_items))] (some (.int R)) A ([.ref a_t, .int p1, .int p2] : List Value).toArray s) (F0 m 2 ls []) := by
    intro n2
    induction n2 with
    | zero => intro v2_3 H locs ls hP hD hS hl hm; rw [mX3_placeOf_L2] at hm; cases hm
    | succ n2 ih2 =>
      intro v2_3 H locs ls hP hD hS hl hm
      rw [mX3_placeOf_L2] at hm
      refine lv_iload_n hx hb dX3_placeOf_2 rfl (lv_at hl 3 rfl) ?_
      refine lv_aload_n hx hb dX3_placeOf_3 rfl (lv_at hl 0 rfl) ?_
      refine va_get (D := G) (ci := 2) (v := .ref a_t_row) (C := RX3) (T := TX3) (N := 3) hx hb hts i_X3 hown hK hP 0 rfl rfl 0 (by decide) l_14 (fun _ h9 => h9) rfl dX3_placeOf_4 ?_
      refine kcV0 (st1 := [.int (mX6_size k_t_row_size), .int v2_3]) X hA (c_X6_size l G cI cZ cE a_t_row a_t_row_items k_t_row_size _ rfl) (cwV 0 hts gX3_placeOf_X6_size rfl rfl rfl hd_X6_size ⟨Nat.le_of_ble_eq_true rfl, Nat.le_of_ble_eq_true rfl⟩) 1 3 rfl rfl hl.1 dX3_placeOf_7 hP hD hS [1] rfl rfl rfl [.int v2_3] rfl (Nat.le_of_ble_eq_true rfl) rfl ⟨Nat.zero_le _, Nat.zero_le _⟩ (fun H locs hP hD hS => ?_)
      refine lv_icmp_ge (tgt := 40) hx hb dX3_placeOf_10 (by decide) (fun c10 => ?_) (fun c10 => ?_)
      · rw [if_pos c10] at hm
        refine lv_bipush (v := (-9)) hx hb dX3_placeOf_40 (by decide) ?_
        have hm := Option.some.inj hm
        subst hm
        exact k_iret (v := (-9)) X rfl dX3_placeOf_42 hP hD hS
      · rw [if_neg c10] at hm
        refine lv_aload_n hx hb dX3_placeOf_13 rfl (lv_at hl 0 rfl) ?_
        refine va_get (D := G) (ci := 2) (v := .ref a_t_row) (C := RX3) (T := TX3) (N := 3) hx hb hts i_X3 hown hK hP 0 rfl rfl 0 (by decide) l_14 (fun _ h9 => h9) rfl dX3_placeOf_14 ?_
        refine lv_iload_n hx hb dX3_placeOf_17 rfl (lv_at hl 3 rfl) ?_
        refine kcV0 (st1 := [.int (mX6_at 24 k_t_row_size f_t_row_items v2_3)]) X hA (c_X6_at l G cI cZ cE a_t_row a_t_row_items 24 k_t_row_size f_t_row_items v2_3 _ rfl) (cwV 1 hts gX3_placeOf_X6_at rfl rfl rfl hd_X6_at ⟨Nat.le_of_ble_eq_true rfl, Nat.le_of_ble_eq_true rfl⟩) 1 3 rfl rfl hl.1 dX3_placeOf_18 hP hD hS [1, 2] rfl rfl rfl [] rfl (Nat.le_of_ble_eq_true rfl) rfl ⟨Nat.zero_le _, Nat.zero_le _⟩ (fun H locs hP hD hS => ?_)
        refine kcS0 (st1 := [.int (mX3_pairOf (mX6_at 24 k_t_row_size f_t_row_items v2_3))]) X hA (c_X3_pairOf l G cI cZ cE (mX6_at 24 k_t_row_size f_t_row_items v2_3) _ rfl) (va_cwS 1 hts gX3_placeOf_X3_pairOf rfl rfl rfl hd_X3_pairOf ⟨Nat.le_of_ble_eq_true rfl, Nat.le_of_ble_eq_true rfl⟩) hl.1 dX3_placeOf_21 hP hD hS [] rfl rfl rfl [] rfl (Nat.le_of_ble_eq_true rfl) rfl ⟨Nat.zero_le _, Nat.zero_le _⟩ (fun H locs hP hD hS => ?_)
        refine lv_iload_n hx hb dX3_placeOf_24 rfl (lv_at hl 1 rfl) ?_
        refine lv_iload_n hx hb dX3_placeOf_25 rfl (lv_at hl 2 rfl) ?_
        refine kcS0 (st1 := [.int (mX3_pair p1 p2), .int (mX3_pairOf (mX6_at 24 k_t_row_size f_t_row_items v2_3))]) X hA (c_X3_pair l G cI cZ cE p1 p2 _ rfl) (va_cwS 2 hts gX3_placeOf_X3_pair rfl rfl rfl hd_X3_pair ⟨Nat.le_of_ble_eq_true rfl, Nat.le_of_ble_eq_true rfl⟩) hl.1 dX3_placeOf_26 hP hD hS [] rfl rfl rfl [.int (mX3_pairOf (mX6_at 24 k_t_row_size f_t_row_items v2_3))] rfl (Nat.le_of_ble_eq_true rfl) rfl ⟨Nat.zero_le _, Nat.zero_le _⟩ (fun H locs hP hD hS => ?_)
        refine lv_icmp_ne (tgt := 34) hx hb dX3_placeOf_29 (by decide) (fun c29 => ?_) (fun c29 => ?_)
        · rw [if_neg c29] at hm
          refine lv_iinc (v := v2_3 + 1) (lv' := [(3, .int (v2_3 + 1)), (0, .ref a_t), (1, .int p1), (2, .int p2)]) hx hb dX3_placeOf_34 hl (k := 3) rfl rfl (by decide) rfl (fun ls hl => ?_)
          refine lv_goto (tgt := 2) hx hb dX3_placeOf_37 (by decide) ?_
          exact ih2 (v2_3 + 1) _ _ _ hP hD hS (lv_sub hl [1, 2, 3, 0] rfl) hm
        · rw [if_pos c29] at hm
          refine lv_iload_n hx hb dX3_placeOf_32 rfl (lv_at hl 3 rfl) ?_
          have hm := Option.some.inj hm
          subst hm
          exact k_iret (v := v2_3) X rfl dX3_placeOf_33 hP hD hS
  exact h2 kFU 0 _ _ _ hP hD hS (lv_sub hl [1, 2, 3, 0] rfl) hm
theorem hd_X3_placeOf : yX3_placeOf.cls = RX3 ∧ yX3_placeOf.cls ≠ "java/lang/invoke/MethodHandle" ∧ yX3_placeOf.cls ≠ "java/lang/invoke/VarHandle" ∧ (parseMethodDescriptor yX3_placeOf.desc).map (fun d => d.parameters.length) = some 2 := by decide +kernel
/-! CoverOrder.Edges has -/
set_option maxRecDepth 100000 in
set_option maxHeartbeats 4000000 in
theorem c_X3_has (l : Launch) (G : va_G) (cI cZ cE : ClassId) (a_t a_t_row a_t_row_items : Nat) (k_t_knots : Int32) (k_t_nextStamp : Int32) (k_t_row_size : Int32) (f_t_row_items : Nat → Int32) (p1 : Int32) (p2 : Int32) (R : Bool) (hm : mX3_has k_t_row_size f_t_row_items p1 p2 = some R) : kM l yX3_has wsX3_has { frames := 2, cells := 0, slots := 0, locals := 44 } G cI cZ cE [.ref a_t, .int p1, .int p2] [(a_t, .inr (2, [.ref a_t_row, .int k_t_knots, .int k_t_nextStamp])), (a_t_row, .inr (3, [.ref a_t_row_items, .int k_t_row_size])), (a_t_row_items, .inl (cI, 24, .inl f_t_row_items))] [(a_t, .inr (2, [.ref a_t_row, .int k_t_knots, .int k_t_nextStamp])), (a_t_row, .inr (3, [.ref a_t_row_items, .int k_t_row_size])), (a_t_row_items, .inl (cI, 24, .inl f_t_row_items))] (some (.int (bI R))) := by
  refine kM_of cX3_has 3 (some .boolean) RX3 (by decide) rfl rfl (Nat.le_of_ble_eq_true rfl) ?_
  intro p e s m below meth c A ls X hA hP hD hS hl
  have hx := X.1.1
  have hb := X.1.2.1
  have hts := X.1.2.2.2.2
  have hown := X.1.2.2.2.1
  have hK := X.2.2.2.1
  have hl : lv_has ls 3 [(0, .ref a_t), (1, .int p1), (2, .int p2)] := hl
  rw [mX3_has] at hm
  refine lv_aload_n hx hb dX3_has_0 rfl (lv_at hl 0 rfl) ?_
  refine lv_iload_n hx hb dX3_has_1 rfl (lv_at hl 1 rfl) ?_
  refine lv_iload_n hx hb dX3_has_2 rfl (lv_at hl 2 rfl) ?_
  obtain ⟨r3, hc3, hm⟩ := kbind hm
  refine kcV0 (st1 := [.int r3]) X hA (c_X3_placeOf l G cI cZ cE a_t a_t_row a_t_row_items k_t_knots k_t_nextStamp k_t_row_size f_t_row_items p1 p2 r3 hc3) (cwV 2 hts gX3_has_X3_placeOf rfl rfl rfl hd_X3_placeOf ⟨Nat.le_of_ble_eq_true rfl, Nat.le_of_ble_eq_true rfl⟩) 0 2 rfl rfl hl.1 dX3_has_3 hP hD hS [0, 1, 2] rfl rfl rfl [] rfl (Nat.le_of_ble_eq_true rfl) rfl ⟨Nat.zero_le _, Nat.zero_le _⟩ (fun H locs hP hD hS => ?_)
  refine lv_bipush (v := (-9)) hx hb dX3_has_6 (by decide) ?_
  refine lv_icmp_eq (tgt := 15) hx hb dX3_has_8 (by decide) (fun c8 => ?_) (fun c8 => ?_)
  · rw [if_pos c8] at hm
    refine lv_iconst (v := 0) hx hb dX3_has_15 (by decide) ?_
    have hm := Option.some.inj hm
    subst hm
    exact k_zret (v := false) X rfl dX3_has_16 hP hD hS
  · rw [if_neg c8] at hm
    refine lv_iconst (v := 1) hx hb dX3_has_11 (by decide) ?_
    refine lv_goto (tgt := 16) hx hb dX3_has_12 (by decide) ?_
    have hm := Option.some.inj hm
    subst hm
    exact k_zret (v := true) X rfl dX3_has_16 hP hD hS
theorem hd_X3_has : yX3_has.cls = RX3 ∧ yX3_has.cls ≠ "java/lang/invoke/MethodHandle" ∧ yX3_has.cls ≠ "java/lang/invoke/VarHandle" ∧ (parseMethodDescriptor yX3_has.desc).map (fun d => d.parameters.length) = some 2 := by decide +kernel
/-! CoverOrder.Edges append -/
set_option maxRecDepth 100000 in
set_option maxHeartbeats 4000000 in
theorem c_X3_append (l : Launch) (G : va_G) (cI cZ cE : ClassId) (a_t a_t_row a_t_row_items : Nat) (k_t_knots : Int32) (k_t_nextStamp : Int32) (k_t_row_size : Int32) (f_t_row_items : Nat → Int32) (p1 : Int32) (p2 : Int32) (R : Int32 × Int32 × Int32 × (Nat → Int32)) (hm : mX3_append k_t_nextStamp k_t_row_size f_t_row_items p1 p2 = some R) : kM l yX3_append wsX3_append { frames := 3, cells := 0, slots := 0, locals := 64 } G cI cZ cE [.ref a_t, .int p1, .int p2] [(a_t, .inr (2, [.ref a_t_row, .int k_t_knots, .int k_t_nextStamp])), (a_t_row, .inr (3, [.ref a_t_row_items, .int k_t_row_size])), (a_t_row_items, .inl (cI, 24, .inl f_t_row_items))] [(a_t, .inr (2, [.ref a_t_row, .int k_t_knots, .int R.2.1])), (a_t_row, .inr (3, [.ref a_t_row_items, .int R.2.2.1])), (a_t_row_items, .inl (cI, 24, .inl R.2.2.2))] (some (.int R.1)) := by
  refine kM_of cX3_append 4 (some .int) RX3 (by decide) rfl rfl (Nat.le_of_ble_eq_true rfl) ?_
  intro p e s m below meth c A ls X hA hP hD hS hl
  have hx := X.1.1
  have hb := X.1.2.1
  have hts := X.1.2.2.2.2
  have hown := X.1.2.2.2.1
  have hK := X.2.2.2.1
  have l_24 : (.fieldLink RX3 24 "CoverOrder$Edges" "nextStamp" "I" : Cond).before _ s = true := hts _ (List.mem_of_getElem? (i := 1) (by decide +kernel))
  have i_X3 : ∀ w ∈ u_ws RX3 TX3 3, w ∈ wsX3_append := k_in _ [22, 23, 24] (by decide +kernel)
  have l_14 : (.fieldLink RX3 14 "CoverOrder$Edges" "row" "LCoverOrder$Row;" : Cond).before _ s = true := hts _ (List.mem_of_getElem? (i := 2) (by decide +kernel))
  have hl : lv_has ls 4 [(0, .ref a_t), (1, .int p1), (2, .int p2)] := hl
  rw [mX3_append] at hm
  refine lv_aload_n hx hb dX3_append_0 rfl (lv_at hl 0 rfl) ?_
  refine va_get (D := G) (ci := 2) (v := .int k_t_nextStamp) (C := RX3) (T := TX3) (N := 3) hx hb hts i_X3 hown hK hP 0 rfl rfl 2 (by decide) l_24 (fun _ h9 => h9) rfl dX3_append_1 ?_
  refine lv_istore_n (lv' := [(3, .int k_t_nextStamp), (0, .ref a_t), (1, .int p1), (2, .int p2)]) hx hb dX3_append_4 rfl hl (by decide) rfl (fun ls hl => ?_)
  refine lv_aload_n hx hb dX3_append_5 rfl (lv_at hl 1 rfl) ?_
  refine va_get (D := G) (ci := 2) (v := .ref a_t_row) (C := RX3) (T := TX3) (N := 3) hx hb hts i_X3 hown hK hP 0 rfl rfl 0 (by decide) l_14 (fun _ h9 => h9) rfl dX3_append_6 ?_
  refine lv_bipush (v := 100) hx hb dX3_append_9 (by decide) ?_
  refine lv_iload_n hx hb dX3_append_11 rfl (lv_at hl 0 rfl) ?_
  refine lv_imul hx hb dX3_append_12 ?_
  refine lv_iload_n hx hb dX3_append_13 rfl (lv_at hl 2 rfl) ?_
  refine lv_iload_n hx hb dX3_append_14 rfl (lv_at hl 3 rfl) ?_
  refine kcS0 (st1 := [.int (mX3_pair p1 p2), .int (100 * k_t_nextStamp), .ref a_t_row]) X hA (c_X3_pair l G cI cZ cE p1 p2 _ rfl) (va_cwS 2 hts gX3_append_X3_pair rfl rfl rfl hd_X3_pair ⟨Nat.le_of_ble_eq_true rfl, Nat.le_of_ble_eq_true rfl⟩) hl.1 dX3_append_15 hP hD hS [] rfl rfl rfl [.int (100 * k_t_nextStamp), .ref a_t_row] rfl (Nat.le_of_ble_eq_true rfl) rfl ⟨Nat.zero_le _, Nat.zero_le _⟩ (fun H locs hP hD hS => ?_)
  refine lv_iadd hx hb dX3_append_18 ?_
  obtain ⟨r19, hc19, hm⟩ := kbind hm
  refine kcV (ws1 := [(a_t, .inr (2, [.ref a_t_row, .int k_t_knots, .int k_t_nextStamp])), (a_t_row, .inr (3, [.ref a_t_row_items, .int r19.1])), (a_t_row_items, .inl (cI, 24, .inl r19.2))]) (st1 := []) X hA (c_X6_add l G cI cZ cE a_t_row a_t_row_items 24 k_t_row_size f_t_row_items ((100 * k_t_nextStamp) + (mX3_pair p1 p2)) r19 hc19) (cwV 1 hts gX3_append_X6_add rfl rfl rfl hd_X6_add ⟨Nat.le_of_ble_eq_true rfl, Nat.le_of_ble_eq_true rfl⟩) 1 3 rfl rfl hl.1 dX3_append_19 hP hD hS [1, 2] rfl rfl rfl rfl rfl [] rfl (Nat.le_of_ble_eq_true rfl) rfl ⟨Nat.zero_le _, Nat.zero_le _⟩ (fun H locs hP hD hS => ?_)
  refine lv_aload_n hx hb dX3_append_22 rfl (lv_at hl 1 rfl) ?_
  refine lv_dup hx hb dX3_append_23 rfl ?_
  refine va_get (D := G) (ci := 2) (v := .int k_t_nextStamp) (C := RX3) (T := TX3) (N := 3) hx hb hts i_X3 hown hK hP 0 rfl rfl 2 (by decide) l_24 (fun _ h9 => h9) rfl dX3_append_24 ?_
  refine lv_iconst (v := 1) hx hb dX3_append_27 (by decide) ?_
  refine lv_iadd hx hb dX3_append_28 ?_
  refine va_put (D := G) (ci := 2) (v := .int (k_t_nextStamp + 1)) (ty := .int) (C := RX3) (T := TX3) (N := 3) hx hb hts i_X3 tyX3 tyX3_ok nmX3 hown hK hP hD hS 0 rfl rfl 2 (by decide) l_24 (fun _ h9 => h9) rfl (by decide +kernel) rfl rfl (Nat.le_of_ble_eq_true rfl) dX3_append_29 (fun H locs hP hD hS => ?_)
  have hP : va_P G vwCl [(a_t, .inr (2, [.ref a_t_row, .int k_t_knots, .int (k_t_nextStamp + 1)])), (a_t_row, .inr (3, [.ref a_t_row_items, .int r19.1])), (a_t_row_items, .inl (cI, 24, .inl r19.2))] H := hP
  have hD : va_D A [(a_t, .inr (2, [.ref a_t_row, .int k_t_knots, .int (k_t_nextStamp + 1)])), (a_t_row, .inr (3, [.ref a_t_row_items, .int r19.1])), (a_t_row_items, .inl (cI, 24, .inl r19.2))] := hD
  refine lv_iload_n hx hb dX3_append_32 rfl (lv_at hl 0 rfl) ?_
  have hm := Option.some.inj hm
  subst hm
  exact k_iret (v := k_t_nextStamp) X rfl dX3_append_33 hP hD hS
theorem hd_X3_append : yX3_append.cls = RX3 ∧ yX3_append.cls ≠ "java/lang/invoke/MethodHandle" ∧ yX3_append.cls ≠ "java/lang/invoke/VarHandle" ∧ (parseMethodDescriptor yX3_append.desc).map (fun d => d.parameters.length) = some 2 := by decide +kernel
/-! CoverOrder.Edges takeOut -/
set_option maxRecDepth 100000 in
set_option maxHeartbeats 4000000 in
theorem c_X3_takeOut (l : Launch) (G : va_G) (cI cZ cE : ClassId) (a_t a_t_row a_t_row_items : Nat) (k_t_knots : Int32) (k_t_nextStamp : Int32) (k_t_row_size : Int32) (f_t_row_items : Nat → Int32) (p1 : Int32) (R : Int32 × Int32 × (Nat → Int32)) (hm : mX3_takeOut k_t_row_size f_t_row_items p1 = some R) : kM l yX3_takeOut wsX3_takeOut { frames := 1, cells := 0, slots := 0, locals := 23 } G cI cZ cE [.ref a_t, .int p1] [(a_t, .inr (2, [.ref a_t_row, .int k_t_knots, .int k_t_nextStamp])), (a_t_row, .inr (3, [.ref a_t_row_items, .int k_t_row_size])), (a_t_row_items, .inl (cI, 24, .inl f_t_row_items))] [(a_t, .inr (2, [.ref a_t_row, .int k_t_knots, .int k_t_nextStamp])), (a_t_row, .inr (3, [.ref a_t_row_items, .int R.2.1])), (a_t_row_items, .inl (cI, 24, .inl R.2.2))] (some (.int R.1)) := by
  refine kM_of cX3_takeOut 2 (some .int) RX3 (by decide) rfl rfl (Nat.le_of_ble_eq_true rfl) ?_
  intro p e s m below meth c A ls X hA hP hD hS hl
  have hx := X.1.1
  have hb := X.1.2.1
  have hts := X.1.2.2.2.2
  have hown := X.1.2.2.2.1
  have hK := X.2.2.2.1
  have l_14 : (.fieldLink RX3 14 "CoverOrder$Edges" "row" "LCoverOrder$Row;" : Cond).before _ s = true := hts _ (List.mem_of_getElem? (i := 1) (by decide +kernel))
  have i_X3 : ∀ w ∈ u_ws RX3 TX3 3, w ∈ wsX3_takeOut := k_in _ [9, 10, 11] (by decide +kernel)
  have hl : lv_has ls 2 [(0, .ref a_t), (1, .int p1)] := hl
  rw [mX3_takeOut] at hm
  refine lv_aload_n hx hb dX3_takeOut_0 rfl (lv_at hl 0 rfl) ?_
  refine va_get (D := G) (ci := 2) (v := .ref a_t_row) (C := RX3) (T := TX3) (N := 3) hx hb hts i_X3 hown hK hP 0 rfl rfl 0 (by decide) l_14 (fun _ h9 => h9) rfl dX3_takeOut_1 ?_
  refine lv_iload_n hx hb dX3_takeOut_4 rfl (lv_at hl 1 rfl) ?_
  obtain ⟨r5, hc5, hm⟩ := kbind hm
  refine kcV (ws1 := [(a_t, .inr (2, [.ref a_t_row, .int k_t_knots, .int k_t_nextStamp])), (a_t_row, .inr (3, [.ref a_t_row_items, .int r5.2.1])), (a_t_row_items, .inl (cI, 24, .inl r5.2.2))]) (st1 := [.int r5.1]) X hA (c_X6_takeOut l G cI cZ cE a_t_row a_t_row_items 24 k_t_row_size f_t_row_items p1 r5 hc5) (cwV 1 hts gX3_takeOut_X6_takeOut rfl rfl rfl hd_X6_takeOut ⟨Nat.le_of_ble_eq_true rfl, Nat.le_of_ble_eq_true rfl⟩) 1 3 rfl rfl hl.1 dX3_takeOut_5 hP hD hS [1, 2] rfl rfl rfl rfl rfl [] rfl (Nat.le_of_ble_eq_true rfl) rfl ⟨Nat.zero_le _, Nat.zero_le _⟩ (fun H locs hP hD hS => ?_)
  have hm := Option.some.inj hm
  subst hm
  exact k_iret (v := r5.1) X rfl dX3_takeOut_8 hP hD hS
theorem hd_X3_takeOut : yX3_takeOut.cls = RX3 ∧ yX3_takeOut.cls ≠ "java/lang/invoke/MethodHandle" ∧ yX3_takeOut.cls ≠ "java/lang/invoke/VarHandle" ∧ (parseMethodDescriptor yX3_takeOut.desc).map (fun d => d.parameters.length) = some 1 := by decide +kernel
/-! CoverOrder.Edges insertIfItCanBe -/
set_option maxRecDepth 100000 in
set_option maxHeartbeats 4000000 in
theorem c_X3_insertIfItCanBe (l : Launch) (G : va_G) (cI cZ cE : ClassId) (a_t a_t_row a_t_row_items : Nat) (k_t_knots : Int32) (k_t_nextStamp : Int32) (k_t_row_size : Int32) (f_t_row_items : Nat → Int32) (p1 : Int32) (p2 : Int32) (R : Bool × Int32 × Int32 × (Nat → Int32)) (hm : mX3_insertIfItCanBe k_t_nextStamp k_t_row_size f_t_row_items p1 p2 = some R) : kM l yX3_insertIfItCanBe wsX3_insertIfItCanBe { frames := 4, cells := 0, slots := 0, locals := 87 } G cI cZ cE [.ref a_t, .int p1, .int p2] [(a_t, .inr (2, [.ref a_t_row, .int k_t_knots, .int k_t_nextStamp])), (a_t_row, .inr (3, [.ref a_t_row_items, .int k_t_row_size])), (a_t_row_items, .inl (cI, 24, .inl f_t_row_items))] [(a_t, .inr (2, [.ref a_t_row, .int k_t_knots, .int R.2.1])), (a_t_row, .inr (3, [.ref a_t_row_items, .int R.2.2.1])), (a_t_row_items, .inl (cI, 24, .inl R.2.2.2))] (some (.int (bI R.1))) := by
  refine kM_of cX3_insertIfItCanBe 4 (some .boolean) RX3 (by decide) rfl rfl (Nat.le_of_ble_eq_true rfl) ?_
  intro p e s m below meth c A ls X hA hP hD hS hl
  have hx := X.1.1
  have hb := X.1.2.1
  have hts := X.1.2.2.2.2
  have hown := X.1.2.2.2.1
  have hK := X.2.2.2.1
  have hl : lv_has ls 4 [(0, .ref a_t), (1, .int p1), (2, .int p2)] := hl
  rw [mX3_insertIfItCanBe] at hm
  refine lv_iload_n hx hb dX3_insertIfItCanBe_0 rfl (lv_at hl 1 rfl) ?_
  refine lv_iload_n hx hb dX3_insertIfItCanBe_1 rfl (lv_at hl 2 rfl) ?_
  have h26 : ∀ (s26_0 : Bool) (H : Heap) (locs : List Loc) (ls : Array Slot), va_P G vwCl [(a_t, .inr (2, [.ref a_t_row, .int k_t_knots, .int k_t_nextStamp])), (a_t_row, .inr (3, [.ref a_t_row_items, .int k_t_row_size])), (a_t_row_items, .inl (cI, 24, .inl f_t_row_items))] H → va_D A [(a_t, .inr (2, [.ref a_t_row, .int k_t_knots, .int k_t_nextStamp])), (a_t_row, .inr (3, [.ref a_t_row_items, .int k_t_row_size])), (a_t_row_items, .inl (cI, 24, .inl f_t_row_items))] → va_S A s.heap H locs → lv_has ls 4 [(0, .ref a_t), (1, .int p1), (2, .int p2)] → mX3_insertIfItCanBe_J26 k_t_nextStamp k_t_row_size f_t_row_items p1 p2 s26_0 = some R → W p l e { frames := 4, cells := 0, slots := 0, locals := 87 } s m ([.ref a_t, .int p1, .int p2] : List Value).toArray below meth c H locs 0 0 (kQ below G [(a_t, .inr (2, [.ref a_t_row, .int k_t_knots, .int R.2.1])), (a_t_row, .inr (3, [.ref a_t_row_items, .int R.2.2.1])), (a_t_row_items, .inl (cI, 24, .inl R.2.2.2))] (some (.int (bI R.1))) A ([.ref a_t, .int p1, .int p2] : List Value).toArray s) (F0 m 26 ls [.int (bI s26_0)]) := by
    intro s26_0 H locs ls hP hD hS hl hm
    rw [mX3_insertIfItCanBe_J26] at hm
    refine lv_istore_n (lv' := [(3, .int (bI s26_0)), (0, .ref a_t), (1, .int p1), (2, .int p2)]) hx hb dX3_insertIfItCanBe_26 rfl hl (by decide) rfl (fun ls hl => ?_)
    refine lv_iload_n hx hb dX3_insertIfItCanBe_27 rfl (lv_at hl 0 rfl) ?_
    refine lv_if_eq (tgt := 38) hx hb dX3_insertIfItCanBe_28 (by decide) (fun c28 => ?_) (fun c28 => ?_)
    · have c28 := kb0 c28
      rw [if_neg c28] at hm
      refine lv_iload_n hx hb dX3_insertIfItCanBe_38 rfl (lv_at hl 0 rfl) ?_
      have hm := Option.some.inj hm
      subst hm
      exact k_zret (v := s26_0) X rfl dX3_insertIfItCanBe_39 hP hD hS
    · have c28 := kb1 c28
      rw [if_pos c28] at hm
      refine lv_aload_n hx hb dX3_insertIfItCanBe_31 rfl (lv_at hl 1 rfl) ?_
      refine lv_iload_n hx hb dX3_insertIfItCanBe_32 rfl (lv_at hl 2 rfl) ?_
      refine lv_iload_n hx hb dX3_insertIfItCanBe_33 rfl (lv_at hl 3 rfl) ?_
      obtain ⟨r34, hc34, hm⟩ := kbind hm
      refine kcV (ws1 := [(a_t, .inr (2, [.ref a_t_row, .int k_t_knots, .int r34.2.1])), (a_t_row, .inr (3, [.ref a_t_row_items, .int r34.2.2.1])), (a_t_row_items, .inl (cI, 24, .inl r34.2.2.2))]) (st1 := [.int r34.1]) X hA (c_X3_append l G cI cZ cE a_t a_t_row a_t_row_items k_t_knots k_t_nextStamp k_t_row_size f_t_row_items p1 p2 r34 hc34) (cwV 2 hts gX3_insertIfItCanBe_X3_append rfl rfl rfl hd_X3_append ⟨Nat.le_of_ble_eq_true rfl, Nat.le_of_ble_eq_true rfl⟩) 0 2 rfl rfl hl.1 dX3_insertIfItCanBe_34 hP hD hS [0, 1, 2] rfl rfl rfl rfl rfl [] rfl (Nat.le_of_ble_eq_true rfl) rfl ⟨Nat.zero_le _, Nat.zero_le _⟩ (fun H locs hP hD hS => ?_)
      refine lv_pop hx hb dX3_insertIfItCanBe_37 rfl ?_
      refine lv_iload_n hx hb dX3_insertIfItCanBe_38 rfl (lv_at hl 0 rfl) ?_
      have hm := Option.some.inj hm
      subst hm
      exact k_zret (v := s26_0) X rfl dX3_insertIfItCanBe_39 hP hD hS
  refine lv_icmp_eq (tgt := 25) hx hb dX3_insertIfItCanBe_2 (by decide) (fun c2 => ?_) (fun c2 => ?_)
  · rw [if_pos c2] at hm
    refine lv_iconst (v := 0) hx hb dX3_insertIfItCanBe_25 (by decide) ?_
    exact h26 false _ _ _ hP hD hS (lv_sub hl [0, 1, 2] rfl) hm
  · rw [if_neg c2] at hm
    refine lv_aload_n hx hb dX3_insertIfItCanBe_5 rfl (lv_at hl 0 rfl) ?_
    refine lv_iload_n hx hb dX3_insertIfItCanBe_6 rfl (lv_at hl 1 rfl) ?_
    refine lv_iload_n hx hb dX3_insertIfItCanBe_7 rfl (lv_at hl 2 rfl) ?_
    obtain ⟨r8, hc8, hm⟩ := kbind hm
    refine kcV0 (st1 := [.int (bI r8)]) X hA (c_X3_has l G cI cZ cE a_t a_t_row a_t_row_items k_t_knots k_t_nextStamp k_t_row_size f_t_row_items p1 p2 r8 hc8) (cwV 2 hts gX3_insertIfItCanBe_X3_has rfl rfl rfl hd_X3_has ⟨Nat.le_of_ble_eq_true rfl, Nat.le_of_ble_eq_true rfl⟩) 0 2 rfl rfl hl.1 dX3_insertIfItCanBe_8 hP hD hS [0, 1, 2] rfl rfl rfl [] rfl (Nat.le_of_ble_eq_true rfl) rfl ⟨Nat.zero_le _, Nat.zero_le _⟩ (fun H locs hP hD hS => ?_)
    refine lv_if_ne (tgt := 25) hx hb dX3_insertIfItCanBe_11 (by decide) (fun c11 => ?_) (fun c11 => ?_)
    · have c11 := kb1 c11
      rw [if_pos c11] at hm
      refine lv_iconst (v := 0) hx hb dX3_insertIfItCanBe_25 (by decide) ?_
      exact h26 false _ _ _ hP hD hS (lv_sub hl [0, 1, 2] rfl) hm
    · have c11 := kb0 c11
      rw [if_neg c11] at hm
      refine lv_aload_n hx hb dX3_insertIfItCanBe_14 rfl (lv_at hl 0 rfl) ?_
      refine kcV0 (st1 := [.int (bI (mX3_isFull k_t_row_size))]) X hA (c_X3_isFull l G cI cZ cE a_t a_t_row a_t_row_items k_t_knots k_t_nextStamp k_t_row_size f_t_row_items _ rfl) (cwV 0 hts gX3_insertIfItCanBe_X3_isFull rfl rfl rfl hd_X3_isFull ⟨Nat.le_of_ble_eq_true rfl, Nat.le_of_ble_eq_true rfl⟩) 0 2 rfl rfl hl.1 dX3_insertIfItCanBe_15 hP hD hS [0, 1, 2] rfl rfl rfl [] rfl (Nat.le_of_ble_eq_true rfl) rfl ⟨Nat.zero_le _, Nat.zero_le _⟩ (fun H locs hP hD hS => ?_)
      refine lv_if_ne (tgt := 25) hx hb dX3_insertIfItCanBe_18 (by decide) (fun c18 => ?_) (fun c18 => ?_)
      · have c18 := kb1 c18
        rw [if_pos c18] at hm
        refine lv_iconst (v := 0) hx hb dX3_insertIfItCanBe_25 (by decide) ?_
        exact h26 false _ _ _ hP hD hS (lv_sub hl [0, 1, 2] rfl) hm
      · have c18 := kb0 c18
        rw [if_neg c18] at hm
        refine lv_iconst (v := 1) hx hb dX3_insertIfItCanBe_21 (by decide) ?_
        refine lv_goto (tgt := 26) hx hb dX3_insertIfItCanBe_22 (by decide) ?_
        exact h26 true _ _ _ hP hD hS (lv_sub hl [0, 1, 2] rfl) hm
theorem hd_X3_insertIfItCanBe : yX3_insertIfItCanBe.cls = RX3 ∧ yX3_insertIfItCanBe.cls ≠ "java/lang/invoke/MethodHandle" ∧ yX3_insertIfItCanBe.cls ≠ "java/lang/invoke/VarHandle" ∧ (parseMethodDescriptor yX3_insertIfItCanBe.desc).map (fun d => d.parameters.length) = some 2 := by decide +kernel
/-! CoverOrder.Edges deleteIfItIsThere -/
set_option maxRecDepth 100000 in
set_option maxHeartbeats 4000000 in
theorem c_X3_deleteIfItIsThere (l : Launch) (G : va_G) (cI cZ cE : ClassId) (a_t a_t_row a_t_row_items : Nat) (k_t_knots : Int32) (k_t_nextStamp : Int32) (k_t_row_size : Int32) (f_t_row_items : Nat → Int32) (p1 : Int32) (p2 : Int32) (R : Bool × Int32 × (Nat → Int32)) (hm : mX3_deleteIfItIsThere k_t_row_size f_t_row_items p1 p2 = some R) : kM l yX3_deleteIfItIsThere wsX3_deleteIfItIsThere { frames := 3, cells := 0, slots := 0, locals := 66 } G cI cZ cE [.ref a_t, .int p1, .int p2] [(a_t, .inr (2, [.ref a_t_row, .int k_t_knots, .int k_t_nextStamp])), (a_t_row, .inr (3, [.ref a_t_row_items, .int k_t_row_size])), (a_t_row_items, .inl (cI, 24, .inl f_t_row_items))] [(a_t, .inr (2, [.ref a_t_row, .int k_t_knots, .int k_t_nextStamp])), (a_t_row, .inr (3, [.ref a_t_row_items, .int R.2.1])), (a_t_row_items, .inl (cI, 24, .inl R.2.2))] (some (.int (bI R.1))) := by
  refine kM_of cX3_deleteIfItIsThere 4 (some .boolean) RX3 (by decide) rfl rfl (Nat.le_of_ble_eq_true rfl) ?_
  intro p e s m below meth c A ls X hA hP hD hS hl
  have hx := X.1.1
  have hb := X.1.2.1
  have hts := X.1.2.2.2.2
  have hown := X.1.2.2.2.1
  have hK := X.2.2.2.1
  have hl : lv_has ls 4 [(0, .ref a_t), (1, .int p1), (2, .int p2)] := hl
  rw [mX3_deleteIfItIsThere] at hm
  refine lv_aload_n hx hb dX3_deleteIfItIsThere_0 rfl (lv_at hl 0 rfl) ?_
  refine lv_iload_n hx hb dX3_deleteIfItIsThere_1 rfl (lv_at hl 1 rfl) ?_
  refine lv_iload_n hx hb dX3_deleteIfItIsThere_2 rfl (lv_at hl 2 rfl) ?_
  obtain ⟨r3, hc3, hm⟩ := kbind hm
  refine kcV0 (st1 := [.int (bI r3)]) X hA (c_X3_has l G cI cZ cE a_t a_t_row a_t_row_items k_t_knots k_t_nextStamp k_t_row_size f_t_row_items p1 p2 r3 hc3) (cwV 2 hts gX3_deleteIfItIsThere_X3_has rfl rfl rfl hd_X3_has ⟨Nat.le_of_ble_eq_true rfl, Nat.le_of_ble_eq_true rfl⟩) 0 2 rfl rfl hl.1 dX3_deleteIfItIsThere_3 hP hD hS [0, 1, 2] rfl rfl rfl [] rfl (Nat.le_of_ble_eq_true rfl) rfl ⟨Nat.zero_le _, Nat.zero_le _⟩ (fun H locs hP hD hS => ?_)
  refine lv_istore_n (lv' := [(3, .int (bI r3)), (0, .ref a_t), (1, .int p1), (2, .int p2)]) hx hb dX3_deleteIfItIsThere_6 rfl hl (by decide) rfl (fun ls hl => ?_)
  refine lv_iload_n hx hb dX3_deleteIfItIsThere_7 rfl (lv_at hl 0 rfl) ?_
  refine lv_if_eq (tgt := 22) hx hb dX3_deleteIfItIsThere_8 (by decide) (fun c8 => ?_) (fun c8 => ?_)
  · have c8 := kb0 c8
    rw [if_neg c8] at hm
    refine lv_iload_n hx hb dX3_deleteIfItIsThere_22 rfl (lv_at hl 0 rfl) ?_
    have hm := Option.some.inj hm
    subst hm
    exact k_zret (v := r3) X rfl dX3_deleteIfItIsThere_23 hP hD hS
  · have c8 := kb1 c8
    rw [if_pos c8] at hm
    refine lv_aload_n hx hb dX3_deleteIfItIsThere_11 rfl (lv_at hl 1 rfl) ?_
    refine lv_aload_n hx hb dX3_deleteIfItIsThere_12 rfl (lv_at hl 1 rfl) ?_
    refine lv_iload_n hx hb dX3_deleteIfItIsThere_13 rfl (lv_at hl 2 rfl) ?_
    refine lv_iload_n hx hb dX3_deleteIfItIsThere_14 rfl (lv_at hl 3 rfl) ?_
    obtain ⟨r15, hc15, hm⟩ := kbind hm
    refine kcV0 (st1 := [.int r15, .ref a_t]) X hA (c_X3_placeOf l G cI cZ cE a_t a_t_row a_t_row_items k_t_knots k_t_nextStamp k_t_row_size f_t_row_items p1 p2 r15 hc15) (cwV 2 hts gX3_deleteIfItIsThere_X3_placeOf rfl rfl rfl hd_X3_placeOf ⟨Nat.le_of_ble_eq_true rfl, Nat.le_of_ble_eq_true rfl⟩) 0 2 rfl rfl hl.1 dX3_deleteIfItIsThere_15 hP hD hS [0, 1, 2] rfl rfl rfl [.ref a_t] rfl (Nat.le_of_ble_eq_true rfl) rfl ⟨Nat.zero_le _, Nat.zero_le _⟩ (fun H locs hP hD hS => ?_)
    obtain ⟨r18, hc18, hm⟩ := kbind hm
    refine kcV (ws1 := [(a_t, .inr (2, [.ref a_t_row, .int k_t_knots, .int k_t_nextStamp])), (a_t_row, .inr (3, [.ref a_t_row_items, .int r18.2.1])), (a_t_row_items, .inl (cI, 24, .inl r18.2.2))]) (st1 := [.int r18.1]) X hA (c_X3_takeOut l G cI cZ cE a_t a_t_row a_t_row_items k_t_knots k_t_nextStamp k_t_row_size f_t_row_items r15 r18 hc18) (cwV 1 hts gX3_deleteIfItIsThere_X3_takeOut rfl rfl rfl hd_X3_takeOut ⟨Nat.le_of_ble_eq_true rfl, Nat.le_of_ble_eq_true rfl⟩) 0 2 rfl rfl hl.1 dX3_deleteIfItIsThere_18 hP hD hS [0, 1, 2] rfl rfl rfl rfl rfl [] rfl (Nat.le_of_ble_eq_true rfl) rfl ⟨Nat.zero_le _, Nat.zero_le _⟩ (fun H locs hP hD hS => ?_)
    refine lv_pop hx hb dX3_deleteIfItIsThere_21 rfl ?_
    refine lv_iload_n hx hb dX3_deleteIfItIsThere_22 rfl (lv_at hl 0 rfl) ?_
    have hm := Option.some.inj hm
    subst hm
    exact k_zret (v := r3) X rfl dX3_deleteIfItIsThere_23 hP hD hS
theorem hd_X3_deleteIfItIsThere : yX3_deleteIfItIsThere.cls = RX3 ∧ yX3_deleteIfItIsThere.cls ≠ "java/lang/invoke/MethodHandle" ∧ yX3_deleteIfItIsThere.cls ≠ "java/lang/invoke/VarHandle" ∧ (parseMethodDescriptor yX3_deleteIfItIsThere.desc).map (fun d => d.parameters.length) = some 2 := by decide +kernel
/-! CoverOrder.Edges turnDrawn -/
set_option maxRecDepth 100000 in
set_option maxHeartbeats 4000000 in
theorem c_X3_turnDrawn (l : Launch) (G : va_G) (cI cZ cE : ClassId) (a_t a_t_row a_t_row_items : Nat) (k_t_knots : Int32) (k_t_nextStamp : Int32) (k_t_row_size : Int32) (f_t_row_items : Nat → Int32) (p1 : Int32) (R : Int32 × Int32 × (Nat → Int32)) (hm : mX3_turnDrawn k_t_knots k_t_nextStamp k_t_row_size f_t_row_items p1 = some R) : kM l yX3_turnDrawn wsX3_turnDrawn { frames := 5, cells := 0, slots := 0, locals := 110 } G cI cZ cE [.ref a_t, .int p1] [(a_t, .inr (2, [.ref a_t_row, .int k_t_knots, .int k_t_nextStamp])), (a_t_row, .inr (3, [.ref a_t_row_items, .int k_t_row_size])), (a_t_row_items, .inl (cI, 24, .inl f_t_row_items))] [(a_t, .inr (2, [.ref a_t_row, .int k_t_knots, .int R.1])), (a_t_row, .inr (3, [.ref a_t_row_items, .int R.2.1])), (a_t_row_items, .inl (cI, 24, .inl R.2.2))] none := by
  refine kM_of cX3_turnDrawn 4 none RX3 (by decide) rfl rfl (Nat.le_of_ble_eq_true rfl) ?_
  intro p e s m below meth c A ls X hA hP hD hS hl
  have hx := X.1.1
  have hb := X.1.2.1
  have hts := X.1.2.2.2.2
  have hown := X.1.2.2.2.1
  have hK := X.2.2.2.1
  have l_20 : (.fieldLink RX3 20 "CoverOrder$Edges" "knots" "I" : Cond).before _ s = true := hts _ (List.mem_of_getElem? (i := 1) (by decide +kernel))
  have i_X3 : ∀ w ∈ u_ws RX3 TX3 3, w ∈ wsX3_turnDrawn := k_in _ [67, 68, 69] (by decide +kernel)
  have hl : lv_has ls 4 [(0, .ref a_t), (1, .int p1)] := hl
  rw [mX3_turnDrawn] at hm
  refine lv_aload_n hx hb dX3_turnDrawn_0 rfl (lv_at hl 0 rfl) ?_
  refine va_get (D := G) (ci := 2) (v := .int k_t_knots) (C := RX3) (T := TX3) (N := 3) hx hb hts i_X3 hown hK hP 0 rfl rfl 1 (by decide) l_20 (fun _ h9 => h9) rfl dX3_turnDrawn_1 ?_
  refine lv_iconst (v := 1) hx hb dX3_turnDrawn_4 (by decide) ?_
  refine lv_icmp_ge (tgt := 9) hx hb dX3_turnDrawn_5 (by decide) (fun c5 => ?_) (fun c5 => ?_)
  · rw [if_pos c5] at hm
    refine lv_iload_n hx hb dX3_turnDrawn_9 rfl (lv_at hl 1 rfl) ?_
    refine lv_aload_n hx hb dX3_turnDrawn_10 rfl (lv_at hl 0 rfl) ?_
    refine va_get (D := G) (ci := 2) (v := .int k_t_knots) (C := RX3) (T := TX3) (N := 3) hx hb hts i_X3 hown hK hP 0 rfl rfl 1 (by decide) l_20 (fun _ h9 => h9) rfl dX3_turnDrawn_11 ?_
    obtain ⟨g14, hm⟩ := gd_some hm
    refine lv_irem hx hb dX3_turnDrawn_14 (kne_ok g14) ?_
    refine lv_istore_n (lv' := [(2, .int (p1 - p1 / k_t_knots * k_t_knots)), (0, .ref a_t), (1, .int p1)]) hx hb dX3_turnDrawn_15 rfl hl (by decide) rfl (fun ls hl => ?_)
    refine lv_iload_n hx hb dX3_turnDrawn_16 rfl (lv_at hl 2 rfl) ?_
    refine lv_bipush (v := 8) hx hb dX3_turnDrawn_17 (by decide) ?_
    refine lv_idiv hx hb dX3_turnDrawn_19 (by decide) ?_
    refine lv_aload_n hx hb dX3_turnDrawn_20 rfl (lv_at hl 1 rfl) ?_
    refine va_get (D := G) (ci := 2) (v := .int k_t_knots) (C := RX3) (T := TX3) (N := 3) hx hb hts i_X3 hown hK hP 0 rfl rfl 1 (by decide) l_20 (fun _ h9 => h9) rfl dX3_turnDrawn_21 ?_
    obtain ⟨g24, hm⟩ := gd_some hm
    refine lv_irem hx hb dX3_turnDrawn_24 (kne_ok g24) ?_
    refine lv_istore_n (lv' := [(3, .int ((p1 / 8) - (p1 / 8) / k_t_knots * k_t_knots)), (2, .int (p1 - p1 / k_t_knots * k_t_knots)), (0, .ref a_t), (1, .int p1)]) hx hb dX3_turnDrawn_25 rfl hl (by decide) rfl (fun ls hl => ?_)
    refine lv_iload_n hx hb dX3_turnDrawn_26 rfl (lv_at hl 1 rfl) ?_
    refine lv_iload_n hx hb dX3_turnDrawn_27 rfl (lv_at hl 0 rfl) ?_
    refine lv_icmp_eq (tgt := 47) hx hb dX3_turnDrawn_28 (by decide) (fun c28 => ?_) (fun c28 => ?_)
    · rw [if_pos c28] at hm
      have hm := Option.some.inj hm
      subst hm
      exact k_vret X rfl dX3_turnDrawn_47 hP hD hS
    · rw [if_neg c28] at hm
      refine lv_aload_n hx hb dX3_turnDrawn_31 rfl (lv_at hl 2 rfl) ?_
      refine lv_iload_n hx hb dX3_turnDrawn_32 rfl (lv_at hl 1 rfl) ?_
      refine lv_iload_n hx hb dX3_turnDrawn_33 rfl (lv_at hl 0 rfl) ?_
      obtain ⟨r34, hc34, hm⟩ := kbind hm
      refine kcV (ws1 := [(a_t, .inr (2, [.ref a_t_row, .int k_t_knots, .int k_t_nextStamp])), (a_t_row, .inr (3, [.ref a_t_row_items, .int r34.2.1])), (a_t_row_items, .inl (cI, 24, .inl r34.2.2))]) (st1 := [.int (bI r34.1)]) X hA (c_X3_deleteIfItIsThere l G cI cZ cE a_t a_t_row a_t_row_items k_t_knots k_t_nextStamp k_t_row_size f_t_row_items (p1 - p1 / k_t_knots * k_t_knots) ((p1 / 8) - (p1 / 8) / k_t_knots * k_t_knots) r34 hc34) (cwV 2 hts gX3_turnDrawn_X3_deleteIfItIsThere rfl rfl rfl hd_X3_deleteIfItIsThere ⟨Nat.le_of_ble_eq_true rfl, Nat.le_of_ble_eq_true rfl⟩) 0 2 rfl rfl hl.1 dX3_turnDrawn_34 hP hD hS [0, 1, 2] rfl rfl rfl rfl rfl [] rfl (Nat.le_of_ble_eq_true rfl) rfl ⟨Nat.zero_le _, Nat.zero_le _⟩ (fun H locs hP hD hS => ?_)
      refine lv_if_ne (tgt := 47) hx hb dX3_turnDrawn_37 (by decide) (fun c37 => ?_) (fun c37 => ?_)
      · have c37 := kb1 c37
        rw [if_pos c37] at hm
        have hm := Option.some.inj hm
        subst hm
        exact k_vret X rfl dX3_turnDrawn_47 hP hD hS
      · have c37 := kb0 c37
        rw [if_neg c37] at hm
        refine lv_aload_n hx hb dX3_turnDrawn_40 rfl (lv_at hl 2 rfl) ?_
        refine lv_iload_n hx hb dX3_turnDrawn_41 rfl (lv_at hl 1 rfl) ?_
        refine lv_iload_n hx hb dX3_turnDrawn_42 rfl (lv_at hl 0 rfl) ?_
        obtain ⟨r43, hc43, hm⟩ := kbind hm
        refine kcV (ws1 := [(a_t, .inr (2, [.ref a_t_row, .int k_t_knots, .int r43.2.1])), (a_t_row, .inr (3, [.ref a_t_row_items, .int r43.2.2.1])), (a_t_row_items, .inl (cI, 24, .inl r43.2.2.2))]) (st1 := [.int (bI r43.1)]) X hA (c_X3_insertIfItCanBe l G cI cZ cE a_t a_t_row a_t_row_items k_t_knots k_t_nextStamp r34.2.1 r34.2.2 (p1 - p1 / k_t_knots * k_t_knots) ((p1 / 8) - (p1 / 8) / k_t_knots * k_t_knots) r43 hc43) (cwV 2 hts gX3_turnDrawn_X3_insertIfItCanBe rfl rfl rfl hd_X3_insertIfItCanBe ⟨Nat.le_of_ble_eq_true rfl, Nat.le_of_ble_eq_true rfl⟩) 0 2 rfl rfl hl.1 dX3_turnDrawn_43 hP hD hS [0, 1, 2] rfl rfl rfl rfl rfl [] rfl (Nat.le_of_ble_eq_true rfl) rfl ⟨Nat.zero_le _, Nat.zero_le _⟩ (fun H locs hP hD hS => ?_)
        refine lv_pop hx hb dX3_turnDrawn_46 rfl ?_
        have hm := Option.some.inj hm
        subst hm
        exact k_vret X rfl dX3_turnDrawn_47 hP hD hS
  · rw [if_neg c5] at hm
    have hm := Option.some.inj hm
    subst hm
    exact k_vret X rfl dX3_turnDrawn_8 hP hD hS
theorem hd_X3_turnDrawn : yX3_turnDrawn.cls = RX3 ∧ yX3_turnDrawn.cls ≠ "java/lang/invoke/MethodHandle" ∧ yX3_turnDrawn.cls ≠ "java/lang/invoke/VarHandle" ∧ (parseMethodDescriptor yX3_turnDrawn.desc).map (fun d => d.parameters.length) = some 1 := by decide +kernel
/-! CoverOrder.Edges countBetween -/
set_option maxRecDepth 100000 in
set_option maxHeartbeats 4000000 in
theorem c_X3_countBetween (l : Launch) (G : va_G) (cI cZ cE : ClassId) (a_t a_t_row a_t_row_items : Nat) (k_t_knots : Int32) (k_t_nextStamp : Int32) (k_t_row_size : Int32) (f_t_row_items : Nat → Int32) (p1 : Int32) (R : Int32) (hm : mX3_countBetween k_t_row_size f_t_row_items p1 = some R) : kM l yX3_countBetween wsX3_countBetween { frames := 1, cells := 0, slots := 0, locals := 21 } G cI cZ cE [.ref a_t, .int p1] [(a_t, .inr (2, [.ref a_t_row, .int k_t_knots, .int k_t_nextStamp])), (a_t_row, .inr (3, [.ref a_t_row_items, .int k_t_row_size])), (a_t_row_items, .inl (cI, 24, .inl f_t_row_items))] [(a_t, .inr (2, [.ref a_t_row, .int k_t_knots, .int k_t_nextStamp])), (a_t_row, .inr (3, [.ref a_t_row_items, .int k_t_row_size])), (a_t_row_items, .inl (cI, 24, .inl f_t_row_items))] (some (.int R)) := by
  refine kM_of cX3_countBetween 4 (some .int) RX3 (by decide) rfl rfl (Nat.le_of_ble_eq_true rfl) ?_
  intro p e s m below meth c A ls X hA hP hD hS hl
  have hx := X.1.1
  have hb := X.1.2.1
  have hts := X.1.2.2.2.2
  have hown := X.1.2.2.2.1
  have hK := X.2.2.2.1
  have l_14 : (.fieldLink RX3 14 "CoverOrder$Edges" "row" "LCoverOrder$Row;" : Cond).before _ s = true := hts _ (List.mem_of_getElem? (i := 1) (by decide +kernel))
  have i_X3 : ∀ w ∈ u_ws RX3 TX3 3, w ∈ wsX3_countBetween := k_in _ [21, 22, 23] (by decide +kernel)
  have hl : lv_has ls 4 [(0, .ref a_t), (1, .int p1)] := hl
  rw [mX3_countBetween] at hm
  refine lv_iconst (v := 0) hx hb dX3_countBetween_0 (by decide) ?_
  refine lv_istore_n (lv' := [(2, .int 0), (0, .ref a_t), (1, .int p1)]) hx hb dX3_countBetween_1 rfl hl (by decide) rfl (fun ls hl => ?_)
  refine lv_iconst (v := 0) hx hb dX3_countBetween_2 (by decide) ?_
  refine lv_istore_n (lv' := [(3, .int 0), (2, .int 0), (0, .ref a_t), (1, .int p1)]) hx hb dX3_countBetween_3 rfl hl (by decide) rfl (fun ls hl => ?_)
  have h4 : ∀ (n4 : Nat), ∀ (v4_2 : Int32) (v4_3 : Int32) (H : Heap) (locs : List Loc) (ls : Array Slot), va_P G vwCl [(a_t, .inr (2, [.ref a_t_row, .int k_t_knots, .int k_t_nextStamp])), (a_t_row, .inr (3, [.ref a_t_row_items, .int k_t_row_size])), (a_t_row_items, .inl (cI, 24, .inl f_t_row_items))] H → va_D A [(a_t, .inr (2, [.ref a_t_row, .int k_t_knots, .int k_t_nextStamp])), (a_t_row, .inr (3, [.ref a_t_row_items, .int k_t_row_size])), (a_t_row_items, .inl (cI, 24, .inl f_t_row_items))] → va_S A s.heap H locs → lv_has ls 4 [(0, .ref a_t), (1, .int p1), (2, .int v4_2), (3, .int v4_3)] → mX3_countBetween_L4 k_t_row_size f_t_row_items p1 n4 v4_2 v4_3 = some R → W p l e { frames := 1, cells := 0, slots := 0, locals := 21 } s m ([.ref a_t, .int p1] : List Value).toArray below meth c H locs 0 0 (kQ below G [(a_t, .inr (2, [.ref a_t_row, .int k_t_knots, .int k_t_nextStamp])), (a_t_row, .inr (3, [.ref a_t_row_items, .int k_t_row_size])), (a_t_row_items, .inl (cI, 24, .inl f_t_row_items))] (some (.int R)) A ([.ref a_t, .int p1] : List Value).toArray s) (F0 m 4 ls []) := by
    intro n4
    induction n4 with
    | zero => intro v4_2 v4_3 H locs ls hP hD hS hl hm; rw [mX3_countBetween_L4] at hm; cases hm
    | succ n4 ih4 =>
      intro v4_2 v4_3 H locs ls hP hD hS hl hm
      rw [mX3_countBetween_L4] at hm
      refine lv_iload_n hx hb dX3_countBetween_4 rfl (lv_at hl 3 rfl) ?_
      refine lv_aload_n hx hb dX3_countBetween_5 rfl (lv_at hl 0 rfl) ?_
      refine va_get (D := G) (ci := 2) (v := .ref a_t_row) (C := RX3) (T := TX3) (N := 3) hx hb hts i_X3 hown hK hP 0 rfl rfl 0 (by decide) l_14 (fun _ h9 => h9) rfl dX3_countBetween_6 ?_
      refine kcV0 (st1 := [.int (mX6_size k_t_row_size), .int v4_3]) X hA (c_X6_size l G cI cZ cE a_t_row a_t_row_items k_t_row_size _ rfl) (cwV 0 hts gX3_countBetween_X6_size rfl rfl rfl hd_X6_size ⟨Nat.le_of_ble_eq_true rfl, Nat.le_of_ble_eq_true rfl⟩) 1 3 rfl rfl hl.1 dX3_countBetween_9 hP hD hS [1] rfl rfl rfl [.int v4_3] rfl (Nat.le_of_ble_eq_true rfl) rfl ⟨Nat.zero_le _, Nat.zero_le _⟩ (fun H locs hP hD hS => ?_)
      refine lv_icmp_ge (tgt := 45) hx hb dX3_countBetween_12 (by decide) (fun c12 => ?_) (fun c12 => ?_)
      · rw [if_pos c12] at hm
        refine lv_iload_n hx hb dX3_countBetween_45 rfl (lv_at hl 2 rfl) ?_
        have hm := Option.some.inj hm
        subst hm
        exact k_iret (v := v4_2) X rfl dX3_countBetween_46 hP hD hS
      · rw [if_neg c12] at hm
        refine lv_iload_n hx hb dX3_countBetween_15 rfl (lv_at hl 1 rfl) ?_
        refine lv_aload_n hx hb dX3_countBetween_16 rfl (lv_at hl 0 rfl) ?_
        refine va_get (D := G) (ci := 2) (v := .ref a_t_row) (C := RX3) (T := TX3) (N := 3) hx hb hts i_X3 hown hK hP 0 rfl rfl 0 (by decide) l_14 (fun _ h9 => h9) rfl dX3_countBetween_17 ?_
        refine lv_iload_n hx hb dX3_countBetween_20 rfl (lv_at hl 3 rfl) ?_
        refine kcV0 (st1 := [.int (mX6_at 24 k_t_row_size f_t_row_items v4_3), .int p1]) X hA (c_X6_at l G cI cZ cE a_t_row a_t_row_items 24 k_t_row_size f_t_row_items v4_3 _ rfl) (cwV 1 hts gX3_countBetween_X6_at rfl rfl rfl hd_X6_at ⟨Nat.le_of_ble_eq_true rfl, Nat.le_of_ble_eq_true rfl⟩) 1 3 rfl rfl hl.1 dX3_countBetween_21 hP hD hS [1, 2] rfl rfl rfl [.int p1] rfl (Nat.le_of_ble_eq_true rfl) rfl ⟨Nat.zero_le _, Nat.zero_le _⟩ (fun H locs hP hD hS => ?_)
        refine kcS0 (st1 := [.int (mX3_pairOf (mX6_at 24 k_t_row_size f_t_row_items v4_3)), .int p1]) X hA (c_X3_pairOf l G cI cZ cE (mX6_at 24 k_t_row_size f_t_row_items v4_3) _ rfl) (va_cwS 1 hts gX3_countBetween_X3_pairOf rfl rfl rfl hd_X3_pairOf ⟨Nat.le_of_ble_eq_true rfl, Nat.le_of_ble_eq_true rfl⟩) hl.1 dX3_countBetween_24 hP hD hS [] rfl rfl rfl [.int p1] rfl (Nat.le_of_ble_eq_true rfl) rfl ⟨Nat.zero_le _, Nat.zero_le _⟩ (fun H locs hP hD hS => ?_)
        refine lv_bipush (v := 10) hx hb dX3_countBetween_27 (by decide) ?_
        refine lv_idiv hx hb dX3_countBetween_29 (by decide) ?_
        refine kcS0 (st1 := [.int (bI (mX5_isIn p1 ((mX3_pairOf (mX6_at 24 k_t_row_size f_t_row_items v4_3)) / 10)))]) X hA (c_X5_isIn l G cI cZ cE p1 ((mX3_pairOf (mX6_at 24 k_t_row_size f_t_row_items v4_3)) / 10) _ rfl) (va_cwS 2 hts gX3_countBetween_X5_isIn rfl rfl rfl hd_X5_isIn ⟨Nat.le_of_ble_eq_true rfl, Nat.le_of_ble_eq_true rfl⟩) hl.1 dX3_countBetween_30 hP hD hS [] rfl rfl rfl [] rfl (Nat.le_of_ble_eq_true rfl) rfl ⟨Nat.zero_le _, Nat.zero_le _⟩ (fun H locs hP hD hS => ?_)
        refine lv_if_eq (tgt := 39) hx hb dX3_countBetween_33 (by decide) (fun c33 => ?_) (fun c33 => ?_)
        · have c33 := kb0 c33
          rw [if_neg c33] at hm
          refine lv_iinc (v := v4_3 + 1) (lv' := [(3, .int (v4_3 + 1)), (0, .ref a_t), (1, .int p1), (2, .int v4_2)]) hx hb dX3_countBetween_39 hl (k := 3) rfl rfl (by decide) rfl (fun ls hl => ?_)
          refine lv_goto (tgt := 4) hx hb dX3_countBetween_42 (by decide) ?_
          exact ih4 v4_2 (v4_3 + 1) _ _ _ hP hD hS (lv_sub hl [1, 2, 3, 0] rfl) hm
        · have c33 := kb1 c33
          rw [if_pos c33] at hm
          refine lv_iinc (v := v4_2 + 1) (lv' := [(2, .int (v4_2 + 1)), (0, .ref a_t), (1, .int p1), (3, .int v4_3)]) hx hb dX3_countBetween_36 hl (k := 2) rfl rfl (by decide) rfl (fun ls hl => ?_)
          refine lv_iinc (v := v4_3 + 1) (lv' := [(3, .int (v4_3 + 1)), (2, .int (v4_2 + 1)), (0, .ref a_t), (1, .int p1)]) hx hb dX3_countBetween_39 hl (k := 3) rfl rfl (by decide) rfl (fun ls hl => ?_)
          refine lv_goto (tgt := 4) hx hb dX3_countBetween_42 (by decide) ?_
          exact ih4 (v4_2 + 1) (v4_3 + 1) _ _ _ hP hD hS (lv_sub hl [2, 3, 1, 0] rfl) hm
  exact h4 kFU 0 0 _ _ _ hP hD hS (lv_sub hl [2, 3, 1, 0] rfl) hm
theorem hd_X3_countBetween : yX3_countBetween.cls = RX3 ∧ yX3_countBetween.cls ≠ "java/lang/invoke/MethodHandle" ∧ yX3_countBetween.cls ≠ "java/lang/invoke/VarHandle" ∧ (parseMethodDescriptor yX3_countBetween.desc).map (fun d => d.parameters.length) = some 1 := by decide +kernel
/-! CoverOrder.Edges grid -/
set_option maxRecDepth 100000 in
set_option maxHeartbeats 4000000 in
theorem c_X3_grid (l : Launch) (G : va_G) (cI cZ cE : ClassId) (a_t a_t_row a_t_row_items : Nat) (k_t_knots : Int32) (k_t_nextStamp : Int32) (k_t_row_size : Int32) (f_t_row_items : Nat → Int32) (R : Int64) (hm : mX3_grid k_t_row_size f_t_row_items = some R) : kM l yX3_grid wsX3_grid { frames := 1, cells := 0, slots := 0, locals := 23 } G cI cZ cE [.ref a_t] [(a_t, .inr (2, [.ref a_t_row, .int k_t_knots, .int k_t_nextStamp])), (a_t_row, .inr (3, [.ref a_t_row_items, .int k_t_row_size])), (a_t_row_items, .inl (cI, 24, .inl f_t_row_items))] [(a_t, .inr (2, [.ref a_t_row, .int k_t_knots, .int k_t_nextStamp])), (a_t_row, .inr (3, [.ref a_t_row_items, .int k_t_row_size])), (a_t_row_items, .inl (cI, 24, .inl f_t_row_items))] (some (.long R)) := by
  refine kM_of cX3_grid 5 (some .long) RX3 (by decide) rfl rfl (Nat.le_of_ble_eq_true rfl) ?_
  intro p e s m below meth c A ls X hA hP hD hS hl
  have hx := X.1.1
  have hb := X.1.2.1
  have hts := X.1.2.2.2.2
  have hown := X.1.2.2.2.1
  have hK := X.2.2.2.1
  have l_14 : (.fieldLink RX3 14 "CoverOrder$Edges" "row" "LCoverOrder$Row;" : Cond).before _ s = true := hts _ (List.mem_of_getElem? (i := 1) (by decide +kernel))
  have i_X3 : ∀ w ∈ u_ws RX3 TX3 3, w ∈ wsX3_grid := k_in _ [21, 22, 23] (by decide +kernel)
  have hl : lv_has ls 5 [(0, .ref a_t)] := hl
  rw [mX3_grid] at hm
  refine lv_lconst (v := 0) hx hb dX3_grid_0 (by decide) ?_
  refine lv_lstore_n (lv' := [(1, .long 0), (0, .ref a_t)]) hx hb dX3_grid_1 rfl hl (by decide) rfl (fun ls hl => ?_)
  refine lv_iconst (v := 0) hx hb dX3_grid_2 (by decide) ?_
  refine lv_istore_n (lv' := [(3, .int 0), (1, .long 0), (0, .ref a_t)]) hx hb dX3_grid_3 rfl hl (by decide) rfl (fun ls hl => ?_)
  have h4 : ∀ (n4 : Nat), ∀ (v4_1 : Int64) (v4_3 : Int32) (H : Heap) (locs : List Loc) (ls : Array Slot), va_P G vwCl [(a_t, .inr (2, [.ref a_t_row, .int k_t_knots, .int k_t_nextStamp])), (a_t_row, .inr (3, [.ref a_t_row_items, .int k_t_row_size])), (a_t_row_items, .inl (cI, 24, .inl f_t_row_items))] H → va_D A [(a_t, .inr (2, [.ref a_t_row, .int k_t_knots, .int k_t_nextStamp])), (a_t_row, .inr (3, [.ref a_t_row_items, .int k_t_row_size])), (a_t_row_items, .inl (cI, 24, .inl f_t_row_items))] → va_S A s.heap H locs → lv_has ls 5 [(0, .ref a_t), (1, .long v4_1), (3, .int v4_3)] → mX3_grid_L4 k_t_row_size f_t_row_items n4 v4_1 v4_3 = some R → W p l e { frames := 1, cells := 0, slots := 0, locals := 23 } s m ([.ref a_t] : List Value).toArray below meth c H locs 0 0 (kQ below G [(a_t, .inr (2, [.ref a_t_row, .int k_t_knots, .int k_t_nextStamp])), (a_t_row, .inr (3, [.ref a_t_row_items, .int k_t_row_size])), (a_t_row_items, .inl (cI, 24, .inl f_t_row_items))] (some (.long R)) A ([.ref a_t] : List Value).toArray s) (F0 m 4 ls []) := by
    intro n4
    induction n4 with
    | zero => intro v4_1 v4_3 H locs ls hP hD hS hl hm; rw [mX3_grid_L4] at hm; cases hm
    | succ n4 ih4 =>
      intro v4_1 v4_3 H locs ls hP hD hS hl hm
      rw [mX3_grid_L4] at hm
      refine lv_iload_n hx hb dX3_grid_4 rfl (lv_at hl 2 rfl) ?_
      refine lv_aload_n hx hb dX3_grid_5 rfl (lv_at hl 0 rfl) ?_
      refine va_get (D := G) (ci := 2) (v := .ref a_t_row) (C := RX3) (T := TX3) (N := 3) hx hb hts i_X3 hown hK hP 0 rfl rfl 0 (by decide) l_14 (fun _ h9 => h9) rfl dX3_grid_6 ?_
      refine kcV0 (st1 := [.int (mX6_size k_t_row_size), .int v4_3]) X hA (c_X6_size l G cI cZ cE a_t_row a_t_row_items k_t_row_size _ rfl) (cwV 0 hts gX3_grid_X6_size rfl rfl rfl hd_X6_size ⟨Nat.le_of_ble_eq_true rfl, Nat.le_of_ble_eq_true rfl⟩) 1 3 rfl rfl hl.1 dX3_grid_9 hP hD hS [1] rfl rfl rfl [.int v4_3] rfl (Nat.le_of_ble_eq_true rfl) rfl ⟨Nat.zero_le _, Nat.zero_le _⟩ (fun H locs hP hD hS => ?_)
      refine lv_icmp_ge (tgt := 49) hx hb dX3_grid_12 (by decide) (fun c12 => ?_) (fun c12 => ?_)
      · rw [if_pos c12] at hm
        refine lv_lload_n hx hb dX3_grid_49 rfl (lv_at hl 1 rfl) ?_
        have hm := Option.some.inj hm
        subst hm
        exact k_lret X rfl dX3_grid_50 hP hD hS
      · rw [if_neg c12] at hm
        refine lv_aload_n hx hb dX3_grid_15 rfl (lv_at hl 0 rfl) ?_
        refine va_get (D := G) (ci := 2) (v := .ref a_t_row) (C := RX3) (T := TX3) (N := 3) hx hb hts i_X3 hown hK hP 0 rfl rfl 0 (by decide) l_14 (fun _ h9 => h9) rfl dX3_grid_16 ?_
        refine lv_iload_n hx hb dX3_grid_19 rfl (lv_at hl 2 rfl) ?_
        refine kcV0 (st1 := [.int (mX6_at 24 k_t_row_size f_t_row_items v4_3)]) X hA (c_X6_at l G cI cZ cE a_t_row a_t_row_items 24 k_t_row_size f_t_row_items v4_3 _ rfl) (cwV 1 hts gX3_grid_X6_at rfl rfl rfl hd_X6_at ⟨Nat.le_of_ble_eq_true rfl, Nat.le_of_ble_eq_true rfl⟩) 1 3 rfl rfl hl.1 dX3_grid_20 hP hD hS [1, 2] rfl rfl rfl [] rfl (Nat.le_of_ble_eq_true rfl) rfl ⟨Nat.zero_le _, Nat.zero_le _⟩ (fun H locs hP hD hS => ?_)
        refine kcS0 (st1 := [.int (mX3_pairOf (mX6_at 24 k_t_row_size f_t_row_items v4_3))]) X hA (c_X3_pairOf l G cI cZ cE (mX6_at 24 k_t_row_size f_t_row_items v4_3) _ rfl) (va_cwS 1 hts gX3_grid_X3_pairOf rfl rfl rfl hd_X3_pairOf ⟨Nat.le_of_ble_eq_true rfl, Nat.le_of_ble_eq_true rfl⟩) hl.1 dX3_grid_23 hP hD hS [] rfl rfl rfl [] rfl (Nat.le_of_ble_eq_true rfl) rfl ⟨Nat.zero_le _, Nat.zero_le _⟩ (fun H locs hP hD hS => ?_)
        refine lv_istore (lv' := [(4, .int (mX3_pairOf (mX6_at 24 k_t_row_size f_t_row_items v4_3))), (0, .ref a_t), (1, .long v4_1), (3, .int v4_3)]) hx hb dX3_grid_26 hl (by decide) rfl (fun ls hl => ?_)
        refine lv_lload_n hx hb dX3_grid_28 rfl (lv_at hl 2 rfl) ?_
        refine lv_iload hx hb dX3_grid_29 (lv_at hl 0 rfl) ?_
        refine lv_bipush (v := 10) hx hb dX3_grid_31 (by decide) ?_
        refine lv_idiv hx hb dX3_grid_33 (by decide) ?_
        refine lv_iload hx hb dX3_grid_34 (lv_at hl 0 rfl) ?_
        refine lv_bipush (v := 10) hx hb dX3_grid_36 (by decide) ?_
        refine lv_irem hx hb dX3_grid_38 (by decide) ?_
        refine kcS0 (st1 := [.long (mX5_flipped v4_1 ((mX3_pairOf (mX6_at 24 k_t_row_size f_t_row_items v4_3)) / 10) ((mX3_pairOf (mX6_at 24 k_t_row_size f_t_row_items v4_3)) - (mX3_pairOf (mX6_at 24 k_t_row_size f_t_row_items v4_3)) / 10 * 10))]) X hA (c_X5_flipped l G cI cZ cE v4_1 ((mX3_pairOf (mX6_at 24 k_t_row_size f_t_row_items v4_3)) / 10) ((mX3_pairOf (mX6_at 24 k_t_row_size f_t_row_items v4_3)) - (mX3_pairOf (mX6_at 24 k_t_row_size f_t_row_items v4_3)) / 10 * 10) _ rfl) (va_cwS 3 hts gX3_grid_X5_flipped rfl rfl rfl hd_X5_flipped ⟨Nat.le_of_ble_eq_true rfl, Nat.le_of_ble_eq_true rfl⟩) hl.1 dX3_grid_39 hP hD hS [] rfl rfl rfl [] rfl (Nat.le_of_ble_eq_true rfl) rfl ⟨Nat.zero_le _, Nat.zero_le _⟩ (fun H locs hP hD hS => ?_)
        refine lv_lstore_n (lv' := [(1, .long (mX5_flipped v4_1 ((mX3_pairOf (mX6_at 24 k_t_row_size f_t_row_items v4_3)) / 10) ((mX3_pairOf (mX6_at 24 k_t_row_size f_t_row_items v4_3)) - (mX3_pairOf (mX6_at 24 k_t_row_size f_t_row_items v4_3)) / 10 * 10))), (4, .int (mX3_pairOf (mX6_at 24 k_t_row_size f_t_row_items v4_3))), (0, .ref a_t), (3, .int v4_3)]) hx hb dX3_grid_42 rfl hl (by decide) rfl (fun ls hl => ?_)
        refine lv_iinc (v := v4_3 + 1) (lv' := [(3, .int (v4_3 + 1)), (1, .long (mX5_flipped v4_1 ((mX3_pairOf (mX6_at 24 k_t_row_size f_t_row_items v4_3)) / 10) ((mX3_pairOf (mX6_at 24 k_t_row_size f_t_row_items v4_3)) - (mX3_pairOf (mX6_at 24 k_t_row_size f_t_row_items v4_3)) / 10 * 10))), (4, .int (mX3_pairOf (mX6_at 24 k_t_row_size f_t_row_items v4_3))), (0, .ref a_t)]) hx hb dX3_grid_43 hl (k := 3) rfl rfl (by decide) rfl (fun ls hl => ?_)
        refine lv_goto (tgt := 4) hx hb dX3_grid_46 (by decide) ?_
        exact ih4 (mX5_flipped v4_1 ((mX3_pairOf (mX6_at 24 k_t_row_size f_t_row_items v4_3)) / 10) ((mX3_pairOf (mX6_at 24 k_t_row_size f_t_row_items v4_3)) - (mX3_pairOf (mX6_at 24 k_t_row_size f_t_row_items v4_3)) / 10 * 10)) (v4_3 + 1) _ _ _ hP hD hS (lv_sub hl [3, 1, 0] rfl) hm
  exact h4 kFU 0 0 _ _ _ hP hD hS (lv_sub hl [2, 1, 0] rfl) hm
theorem hd_X3_grid : yX3_grid.cls = RX3 ∧ yX3_grid.cls ≠ "java/lang/invoke/MethodHandle" ∧ yX3_grid.cls ≠ "java/lang/invoke/VarHandle" ∧ (parseMethodDescriptor yX3_grid.desc).map (fun d => d.parameters.length) = some 0 := by decide +kernel
/-! CoverOrder.Edges firstWayOn -/
set_option maxRecDepth 100000 in
set_option maxHeartbeats 4000000 in
theorem c_X3_firstWayOn (l : Launch) (G : va_G) (cI cZ cE : ClassId) (a_t a_t_row a_t_row_items : Nat) (k_t_knots : Int32) (k_t_nextStamp : Int32) (k_t_row_size : Int32) (f_t_row_items : Nat → Int32) (p1 : Int32) (p2 : Int32) (R : Int32) (hm : mX3_firstWayOn k_t_row_size f_t_row_items p1 p2 = some R) : kM l yX3_firstWayOn wsX3_firstWayOn { frames := 1, cells := 0, slots := 0, locals := 21 } G cI cZ cE [.ref a_t, .int p1, .int p2] [(a_t, .inr (2, [.ref a_t_row, .int k_t_knots, .int k_t_nextStamp])), (a_t_row, .inr (3, [.ref a_t_row_items, .int k_t_row_size])), (a_t_row_items, .inl (cI, 24, .inl f_t_row_items))] [(a_t, .inr (2, [.ref a_t_row, .int k_t_knots, .int k_t_nextStamp])), (a_t_row, .inr (3, [.ref a_t_row_items, .int k_t_row_size])), (a_t_row_items, .inl (cI, 24, .inl f_t_row_items))] (some (.int R)) := by
  refine kM_of cX3_firstWayOn 5 (some .int) RX3 (by decide) rfl rfl (Nat.le_of_ble_eq_true rfl) ?_
  intro p e s m below meth c A ls X hA hP hD hS hl
  have hx := X.1.1
  have hb := X.1.2.1
  have hts := X.1.2.2.2.2
  have hown := X.1.2.2.2.1
  have hK := X.2.2.2.1
  have l_14 : (.fieldLink RX3 14 "CoverOrder$Edges" "row" "LCoverOrder$Row;" : Cond).before _ s = true := hts _ (List.mem_of_getElem? (i := 1) (by decide +kernel))
  have i_X3 : ∀ w ∈ u_ws RX3 TX3 3, w ∈ wsX3_firstWayOn := k_in _ [21, 22, 23] (by decide +kernel)
  have hl : lv_has ls 5 [(0, .ref a_t), (1, .int p1), (2, .int p2)] := hl
  rw [mX3_firstWayOn] at hm
  refine lv_iconst (v := 0) hx hb dX3_firstWayOn_0 (by decide) ?_
  refine lv_istore_n (lv' := [(3, .int 0), (0, .ref a_t), (1, .int p1), (2, .int p2)]) hx hb dX3_firstWayOn_1 rfl hl (by decide) rfl (fun ls hl => ?_)
  have h2 : ∀ (n2 : Nat), ∀ (v2_3 : Int32) (H : Heap) (locs : List Loc) (ls : Array Slot), va_P G vwCl [(a_t, .inr (2, [.ref a_t_row, .int k_t_knots, .int k_t_nextStamp])), (a_t_row, .inr (3, [.ref a_t_row_items, .int k_t_row_size])), (a_t_row_items, .inl (cI, 24, .inl f_t_row_items))] H → va_D A [(a_t, .inr (2, [.ref a_t_row, .int k_t_knots, .int k_t_nextStamp])), (a_t_row, .inr (3, [.ref a_t_row_items, .int k_t_row_size])), (a_t_row_items, .inl (cI, 24, .inl f_t_row_items))] → va_S A s.heap H locs → lv_has ls 5 [(0, .ref a_t), (1, .int p1), (2, .int p2), (3, .int v2_3)] → mX3_firstWayOn_L2 k_t_row_size f_t_row_items p1 p2 n2 v2_3 = some R → W p l e { frames := 1, cells := 0, slots := 0, locals := 21 } s m ([.ref a_t, .int p1, .int p2] : List Value).toArray below meth c H locs 0 0 (kQ below G [(a_t, .inr (2, [.ref a_t_row, .int k_t_knots, .int k_t_nextStamp])), (a_t_row, .inr (3, [.ref a_t_row_items, .int k_t_row_size])), (a_t_row_items, .inl (cI, 24, .inl f_t_row_items))] (some (.int R)) A ([.ref a_t, .int p1, .int p2] : List Value).toArray s) (F0 m 2 ls []) := by
    intro n2
    induction n2 with
    | zero => intro v2_3 H locs ls hP hD hS hl hm; rw [mX3_firstWayOn_L2] at hm; cases hm
    | succ n2 ih2 =>
      intro v2_3 H locs ls hP hD hS hl hm
      rw [mX3_firstWayOn_L2] at hm
      refine lv_iload_n hx hb dX3_firstWayOn_2 rfl (lv_at hl 3 rfl) ?_
      refine lv_aload_n hx hb dX3_firstWayOn_3 rfl (lv_at hl 0 rfl) ?_
      refine va_get (D := G) (ci := 2) (v := .ref a_t_row) (C := RX3) (T := TX3) (N := 3) hx hb hts i_X3 hown hK hP 0 rfl rfl 0 (by decide) l_14 (fun _ h9 => h9) rfl dX3_firstWayOn_4 ?_
      refine kcV0 (st1 := [.int (mX6_size k_t_row_size), .int v2_3]) X hA (c_X6_size l G cI cZ cE a_t_row a_t_row_items k_t_row_size _ rfl) (cwV 0 hts gX3_firstWayOn_X6_size rfl rfl rfl hd_X6_size ⟨Nat.le_of_ble_eq_true rfl, Nat.le_of_ble_eq_true rfl⟩) 1 3 rfl rfl hl.1 dX3_firstWayOn_7 hP hD hS [1] rfl rfl rfl [.int v2_3] rfl (Nat.le_of_ble_eq_true rfl) rfl ⟨Nat.zero_le _, Nat.zero_le _⟩ (fun H locs hP hD hS => ?_)
      refine lv_icmp_ge (tgt := 59) hx hb dX3_firstWayOn_10 (by decide) (fun c10 => ?_) (fun c10 => ?_)
      · rw [if_pos c10] at hm
        refine lv_bipush (v := (-9)) hx hb dX3_firstWayOn_59 (by decide) ?_
        have hm := Option.some.inj hm
        subst hm
        exact k_iret (v := (-9)) X rfl dX3_firstWayOn_61 hP hD hS
      · rw [if_neg c10] at hm
        refine lv_aload_n hx hb dX3_firstWayOn_13 rfl (lv_at hl 0 rfl) ?_
        refine va_get (D := G) (ci := 2) (v := .ref a_t_row) (C := RX3) (T := TX3) (N := 3) hx hb hts i_X3 hown hK hP 0 rfl rfl 0 (by decide) l_14 (fun _ h9 => h9) rfl dX3_firstWayOn_14 ?_
        refine lv_iload_n hx hb dX3_firstWayOn_17 rfl (lv_at hl 3 rfl) ?_
        refine kcV0 (st1 := [.int (mX6_at 24 k_t_row_size f_t_row_items v2_3)]) X hA (c_X6_at l G cI cZ cE a_t_row a_t_row_items 24 k_t_row_size f_t_row_items v2_3 _ rfl) (cwV 1 hts gX3_firstWayOn_X6_at rfl rfl rfl hd_X6_at ⟨Nat.le_of_ble_eq_true rfl, Nat.le_of_ble_eq_true rfl⟩) 1 3 rfl rfl hl.1 dX3_firstWayOn_18 hP hD hS [1, 2] rfl rfl rfl [] rfl (Nat.le_of_ble_eq_true rfl) rfl ⟨Nat.zero_le _, Nat.zero_le _⟩ (fun H locs hP hD hS => ?_)
        refine kcS0 (st1 := [.int (mX3_pairOf (mX6_at 24 k_t_row_size f_t_row_items v2_3))]) X hA (c_X3_pairOf l G cI cZ cE (mX6_at 24 k_t_row_size f_t_row_items v2_3) _ rfl) (va_cwS 1 hts gX3_firstWayOn_X3_pairOf rfl rfl rfl hd_X3_pairOf ⟨Nat.le_of_ble_eq_true rfl, Nat.le_of_ble_eq_true rfl⟩) hl.1 dX3_firstWayOn_21 hP hD hS [] rfl rfl rfl [] rfl (Nat.le_of_ble_eq_true rfl) rfl ⟨Nat.zero_le _, Nat.zero_le _⟩ (fun H locs hP hD hS => ?_)
        refine lv_istore (lv' := [(4, .int (mX3_pairOf (mX6_at 24 k_t_row_size f_t_row_items v2_3))), (0, .ref a_t), (1, .int p1), (2, .int p2), (3, .int v2_3)]) hx hb dX3_firstWayOn_24 hl (by decide) rfl (fun ls hl => ?_)
        refine lv_iload hx hb dX3_firstWayOn_26 (lv_at hl 0 rfl) ?_
        refine lv_bipush (v := 10) hx hb dX3_firstWayOn_28 (by decide) ?_
        refine lv_idiv hx hb dX3_firstWayOn_30 (by decide) ?_
        refine lv_iload_n hx hb dX3_firstWayOn_31 rfl (lv_at hl 2 rfl) ?_
        refine lv_icmp_ne (tgt := 53) hx hb dX3_firstWayOn_32 (by decide) (fun c32 => ?_) (fun c32 => ?_)
        · rw [if_neg c32] at hm
          refine lv_iinc (v := v2_3 + 1) (lv' := [(3, .int (v2_3 + 1)), (4, .int (mX3_pairOf (mX6_at 24 k_t_row_size f_t_row_items v2_3))), (0, .ref a_t), (1, .int p1), (2, .int p2)]) hx hb dX3_firstWayOn_53 hl (k := 4) rfl rfl (by decide) rfl (fun ls hl => ?_)
          refine lv_goto (tgt := 2) hx hb dX3_firstWayOn_56 (by decide) ?_
          exact ih2 (v2_3 + 1) _ _ _ hP hD hS (lv_sub hl [2, 3, 4, 0] rfl) hm
        · rw [if_pos c32] at hm
          refine lv_iload_n hx hb dX3_firstWayOn_35 rfl (lv_at hl 3 rfl) ?_
          refine lv_iload hx hb dX3_firstWayOn_36 (lv_at hl 0 rfl) ?_
          refine lv_bipush (v := 10) hx hb dX3_firstWayOn_38 (by decide) ?_
          refine lv_irem hx hb dX3_firstWayOn_40 (by decide) ?_
          refine kcS0 (st1 := [.int (bI (mX5_isIn p2 ((mX3_pairOf (mX6_at 24 k_t_row_size f_t_row_items v2_3)) - (mX3_pairOf (mX6_at 24 k_t_row_size f_t_row_items v2_3)) / 10 * 10)))]) X hA (c_X5_isIn l G cI cZ cE p2 ((mX3_pairOf (mX6_at 24 k_t_row_size f_t_row_items v2_3)) - (mX3_pairOf (mX6_at 24 k_t_row_size f_t_row_items v2_3)) / 10 * 10) _ rfl) (va_cwS 2 hts gX3_firstWayOn_X5_isIn rfl rfl rfl hd_X5_isIn ⟨Nat.le_of_ble_eq_true rfl, Nat.le_of_ble_eq_true rfl⟩) hl.1 dX3_firstWayOn_41 hP hD hS [] rfl rfl rfl [] rfl (Nat.le_of_ble_eq_true rfl) rfl ⟨Nat.zero_le _, Nat.zero_le _⟩ (fun H locs hP hD hS => ?_)
          refine lv_if_ne (tgt := 53) hx hb dX3_firstWayOn_44 (by decide) (fun c44 => ?_) (fun c44 => ?_)
          · have c44 := kb1 c44
            rw [if_pos c44] at hm
            refine lv_iinc (v := v2_3 + 1) (lv' := [(3, .int (v2_3 + 1)), (4, .int (mX3_pairOf (mX6_at 24 k_t_row_size f_t_row_items v2_3))), (0, .ref a_t), (1, .int p1), (2, .int p2)]) hx hb dX3_firstWayOn_53 hl (k := 4) rfl rfl (by decide) rfl (fun ls hl => ?_)
            refine lv_goto (tgt := 2) hx hb dX3_firstWayOn_56 (by decide) ?_
            exact ih2 (v2_3 + 1) _ _ _ hP hD hS (lv_sub hl [2, 3, 4, 0] rfl) hm
          · have c44 := kb0 c44
            rw [if_neg c44] at hm
            refine lv_iload hx hb dX3_firstWayOn_47 (lv_at hl 0 rfl) ?_
            refine lv_bipush (v := 10) hx hb dX3_firstWayOn_49 (by decide) ?_
            refine lv_irem hx hb dX3_firstWayOn_51 (by decide) ?_
            have hm := Option.some.inj hm
            subst hm
            exact k_iret (v := (mX3_pairOf (mX6_at 24 k_t_row_size f_t_row_items v2_3)) - (mX3_pairOf (mX6_at 24 k_t_row_size f_t_row_items v2_3)) / 10 * 10) X rfl dX3_firstWayOn_52 hP hD hS
  exact h2 kFU 0 _ _ _ hP hD hS (lv_sub hl [1, 2, 3, 0] rfl) hm
theorem hd_X3_firstWayOn : yX3_firstWayOn.cls = RX3 ∧ yX3_firstWayOn.cls ≠ "java/lang/invoke/MethodHandle" ∧ yX3_firstWayOn.cls ≠ "java/lang/invoke/VarHandle" ∧ (parseMethodDescriptor yX3_firstWayOn.desc).map (fun d => d.parameters.length) = some 2 := by decide +kernel
/-! CoverOrder.Text length -/
set_option maxRecDepth 100000 in
set_option maxHeartbeats 4000000 in
theorem c_X8_length (l : Launch) (G : va_G) (cI cZ cE : ClassId) (a_t a_t_letters a_t_letters_items : Nat) (k_t_letters_size : Int32) (R : Int32) (hm : mX8_length k_t_letters_size = R) : kM l yX8_length wsX8_length { frames := 1, cells := 0, slots := 0, locals := 20 } G cI cZ cE [.ref a_t] [(a_t, .inr (5, [.ref a_t_letters])), (a_t_letters, .inr (3, [.ref a_t_letters_items, .int k_t_letters_size]))] [(a_t, .inr (5, [.ref a_t_letters])), (a_t_letters, .inr (3, [.ref a_t_letters_items, .int k_t_letters_size]))] (some (.int R)) := by
  refine kM_of cX8_length 1 (some .int) RX8 (by decide) rfl rfl (Nat.le_of_ble_eq_true rfl) ?_
  intro p e s m below meth c A ls X hA hP hD hS hl
  have hx := X.1.1
  have hb := X.1.2.1
  have hts := X.1.2.2.2.2
  have hown := X.1.2.2.2.1
  have hK := X.2.2.2.1
  have l_14 : (.fieldLink RX8 14 "CoverOrder$Text" "letters" "LCoverOrder$Row;" : Cond).before _ s = true := hts _ (List.mem_of_getElem? (i := 1) (by decide +kernel))
  have i_X8 : ∀ w ∈ u_ws RX8 TX8 1, w ∈ wsX8_length := k_in _ [8] (by decide +kernel)
  have hl : lv_has ls 1 [(0, .ref a_t)] := hl
  rw [mX8_length] at hm
  refine lv_aload_n hx hb dX8_length_0 rfl (lv_at hl 0 rfl) ?_
  refine va_get (D := G) (ci := 5) (v := .ref a_t_letters) (C := RX8) (T := TX8) (N := 1) hx hb hts i_X8 hown hK hP 0 rfl rfl 0 (by decide) l_14 (fun _ h9 => h9) rfl dX8_length_1 ?_
  refine kcV0 (st1 := [.int (mX6_size k_t_letters_size)]) X hA (c_X6_size l G cI cZ cE a_t_letters a_t_letters_items k_t_letters_size _ rfl) (cwV 0 hts gX8_length_X6_size rfl rfl rfl hd_X6_size ⟨Nat.le_of_ble_eq_true rfl, Nat.le_of_ble_eq_true rfl⟩) 1 3 rfl rfl hl.1 dX8_length_4 hP hD hS [1] rfl rfl rfl [] rfl (Nat.le_of_ble_eq_true rfl) rfl ⟨Nat.zero_le _, Nat.zero_le _⟩ (fun H locs hP hD hS => ?_)
  subst hm
  exact k_iret (v := (mX6_size k_t_letters_size)) X rfl dX8_length_7 hP hD hS
theorem hd_X8_length : yX8_length.cls = RX8 ∧ yX8_length.cls ≠ "java/lang/invoke/MethodHandle" ∧ yX8_length.cls ≠ "java/lang/invoke/VarHandle" ∧ (parseMethodDescriptor yX8_length.desc).map (fun d => d.parameters.length) = some 0 := by decide +kernel
/-! CoverOrder.Text isFull -/
set_option maxRecDepth 100000 in
set_option maxHeartbeats 4000000 in
theorem c_X8_isFull (l : Launch) (G : va_G) (cI cZ cE : ClassId) (a_t a_t_letters a_t_letters_items : Nat) (k_t_letters_size : Int32) (f_t_letters_items : Nat → Int32) (R : Bool) (hm : mX8_isFull k_t_letters_size = R) : kM l yX8_isFull wsX8_isFull { frames := 1, cells := 0, slots := 0, locals := 20 } G cI cZ cE [.ref a_t] [(a_t, .inr (5, [.ref a_t_letters])), (a_t_letters, .inr (3, [.ref a_t_letters_items, .int k_t_letters_size])), (a_t_letters_items, .inl (cI, 64, .inl f_t_letters_items))] [(a_t, .inr (5, [.ref a_t_letters])), (a_t_letters, .inr (3, [.ref a_t_letters_items, .int k_t_letters_size])), (a_t_letters_items, .inl (cI, 64, .inl f_t_letters_items))] (some (.int (bI R))) := by
  refine kM_of cX8_isFull 1 (some .boolean) RX8 (by decide) rfl rfl (Nat.le_of_ble_eq_true rfl) ?_
  intro p e s m below meth c A ls X hA hP hD hS hl
  have hx := X.1.1
  have hb := X.1.2.1
  have hts := X.1.2.2.2.2
  have hown := X.1.2.2.2.1
  have hK := X.2.2.2.1
  have l_14 : (.fieldLink RX8 14 "CoverOrder$Text" "letters" "LCoverOrder$Row;" : Cond).before _ s = true := hts _ (List.mem_of_getElem? (i := 1) (by decide +kernel))
  have i_X8 : ∀ w ∈ u_ws RX8 TX8 1, w ∈ wsX8_isFull := k_in _ [9] (by decide +kernel)
  have hl : lv_has ls 1 [(0, .ref a_t)] := hl
  rw [mX8_isFull] at hm
  refine lv_aload_n hx hb dX8_isFull_0 rfl (lv_at hl 0 rfl) ?_
  refine va_get (D := G) (ci := 5) (v := .ref a_t_letters) (C := RX8) (T := TX8) (N := 1) hx hb hts i_X8 hown hK hP 0 rfl rfl 0 (by decide) l_14 (fun _ h9 => h9) rfl dX8_isFull_1 ?_
  refine kcV0 (st1 := [.int (bI (mX6_isFull 64 k_t_letters_size))]) X hA (c_X6_isFull l G cI cZ cE a_t_letters a_t_letters_items 64 k_t_letters_size f_t_letters_items _ rfl) (cwV 0 hts gX8_isFull_X6_isFull rfl rfl rfl hd_X6_isFull ⟨Nat.le_of_ble_eq_true rfl, Nat.le_of_ble_eq_true rfl⟩) 1 3 rfl rfl hl.1 dX8_isFull_4 hP hD hS [1, 2] rfl rfl rfl [] rfl (Nat.le_of_ble_eq_true rfl) rfl ⟨Nat.zero_le _, Nat.zero_le _⟩ (fun H locs hP hD hS => ?_)
  subst hm
  exact k_zret (v := (mX6_isFull 64 k_t_letters_size)) X rfl dX8_isFull_7 hP hD hS
theorem hd_X8_isFull : yX8_isFull.cls = RX8 ∧ yX8_isFull.cls ≠ "java/lang/invoke/MethodHandle" ∧ yX8_isFull.cls ≠ "java/lang/invoke/VarHandle" ∧ (parseMethodDescriptor yX8_isFull.desc).map (fun d => d.parameters.length) = some 0 := by decide +kernel
/-! CoverOrder.Text add -/
set_option maxRecDepth 100000 in
set_option maxHeartbeats 4000000 in
theorem c_X8_add (l : Launch) (G : va_G) (cI cZ cE : ClassId) (a_t a_t_letters a_t_letters_items : Nat) (k_t_letters_size : Int32) (f_t_letters_items : Nat → Int32) (p1 : Int32) (R : Int32 × (Nat → Int32)) (hm : mX8_add k_t_letters_size f_t_letters_items p1 = some R) : kM l yX8_add wsX8_add { frames := 3, cells := 0, slots := 0, locals := 64 } G cI cZ cE [.ref a_t, .int p1] [(a_t, .inr (5, [.ref a_t_letters])), (a_t_letters, .inr (3, [.ref a_t_letters_items, .int k_t_letters_size])), (a_t_letters_items, .inl (cI, 64, .inl f_t_letters_items))] [(a_t, .inr (5, [.ref a_t_letters])), (a_t_letters, .inr (3, [.ref a_t_letters_items, .int R.1])), (a_t_letters_items, .inl (cI, 64, .inl R.2))] none := by
  refine kM_of cX8_add 2 none RX8 (by decide) rfl rfl (Nat.le_of_ble_eq_true rfl) ?_
  intro p e s m below meth c A ls X hA hP hD hS hl
  have hx := X.1.1
  have hb := X.1.2.1
  have hts := X.1.2.2.2.2
  have hown := X.1.2.2.2.1
  have hK := X.2.2.2.1
  have l_14 : (.fieldLink RX8 14 "CoverOrder$Text" "letters" "LCoverOrder$Row;" : Cond).before _ s = true := hts _ (List.mem_of_getElem? (i := 1) (by decide +kernel))
  have i_X8 : ∀ w ∈ u_ws RX8 TX8 1, w ∈ wsX8_add := k_in _ [17] (by decide +kernel)
  have hl : lv_has ls 2 [(0, .ref a_t), (1, .int p1)] := hl
  rw [mX8_add] at hm
  refine lv_aload_n hx hb dX8_add_0 rfl (lv_at hl 0 rfl) ?_
  refine va_get (D := G) (ci := 5) (v := .ref a_t_letters) (C := RX8) (T := TX8) (N := 1) hx hb hts i_X8 hown hK hP 0 rfl rfl 0 (by decide) l_14 (fun _ h9 => h9) rfl dX8_add_1 ?_
  refine lv_iload_n hx hb dX8_add_4 rfl (lv_at hl 1 rfl) ?_
  obtain ⟨r5, hc5, hm⟩ := kbind hm
  refine kcV (ws1 := [(a_t, .inr (5, [.ref a_t_letters])), (a_t_letters, .inr (3, [.ref a_t_letters_items, .int r5.1])), (a_t_letters_items, .inl (cI, 64, .inl r5.2))]) (st1 := []) X hA (c_X6_add l G cI cZ cE a_t_letters a_t_letters_items 64 k_t_letters_size f_t_letters_items p1 r5 hc5) (cwV 1 hts gX8_add_X6_add rfl rfl rfl hd_X6_add ⟨Nat.le_of_ble_eq_true rfl, Nat.le_of_ble_eq_true rfl⟩) 1 3 rfl rfl hl.1 dX8_add_5 hP hD hS [1, 2] rfl rfl rfl rfl rfl [] rfl (Nat.le_of_ble_eq_true rfl) rfl ⟨Nat.zero_le _, Nat.zero_le _⟩ (fun H locs hP hD hS => ?_)
  have hm := Option.some.inj hm
  subst hm
  exact k_vret X rfl dX8_add_8 hP hD hS
theorem hd_X8_add : yX8_add.cls = RX8 ∧ yX8_add.cls ≠ "java/lang/invoke/MethodHandle" ∧ yX8_add.cls ≠ "java/lang/invoke/VarHandle" ∧ (parseMethodDescriptor yX8_add.desc).map (fun d => d.parameters.length) = some 1 := by decide +kernel
/-! CoverOrder.Text clear -/
set_option maxRecDepth 100000 in
set_option maxHeartbeats 4000000 in
theorem c_X8_clear (l : Launch) (G : va_G) (cI cZ cE : ClassId) (a_t a_t_letters a_t_letters_items : Nat) (k_t_letters_size : Int32) (R : Int32) (hm : mX8_clear k_t_letters_size = R) : kM l yX8_clear wsX8_clear { frames := 1, cells := 0, slots := 0, locals := 20 } G cI cZ cE [.ref a_t] [(a_t, .inr (5, [.ref a_t_letters])), (a_t_letters, .inr (3, [.ref a_t_letters_items, .int k_t_letters_size]))] [(a_t, .inr (5, [.ref a_t_letters])), (a_t_letters, .inr (3, [.ref a_t_letters_items, .int R]))] none := by
  refine kM_of cX8_clear 1 none RX8 (by decide) rfl rfl (Nat.le_of_ble_eq_true rfl) ?_
  intro p e s m below meth c A ls X hA hP hD hS hl
  have hx := X.1.1
  have hb := X.1.2.1
  have hts := X.1.2.2.2.2
  have hown := X.1.2.2.2.1
  have hK := X.2.2.2.1
  have l_14 : (.fieldLink RX8 14 "CoverOrder$Text" "letters" "LCoverOrder$Row;" : Cond).before _ s = true := hts _ (List.mem_of_getElem? (i := 1) (by decide +kernel))
  have i_X8 : ∀ w ∈ u_ws RX8 TX8 1, w ∈ wsX8_clear := k_in _ [8] (by decide +kernel)
  have hl : lv_has ls 1 [(0, .ref a_t)] := hl
  rw [mX8_clear] at hm
  refine lv_aload_n hx hb dX8_clear_0 rfl (lv_at hl 0 rfl) ?_
  refine va_get (D := G) (ci := 5) (v := .ref a_t_letters) (C := RX8) (T := TX8) (N := 1) hx hb hts i_X8 hown hK hP 0 rfl rfl 0 (by decide) l_14 (fun _ h9 => h9) rfl dX8_clear_1 ?_
  refine kcV (ws1 := [(a_t, .inr (5, [.ref a_t_letters])), (a_t_letters, .inr (3, [.ref a_t_letters_items, .int (mX6_clear k_t_letters_size)]))]) (st1 := []) X hA (c_X6_clear l G cI cZ cE a_t_letters a_t_letters_items k_t_letters_size _ rfl) (cwV 0 hts gX8_clear_X6_clear rfl rfl rfl hd_X6_clear ⟨Nat.le_of_ble_eq_true rfl, Nat.le_of_ble_eq_true rfl⟩) 1 3 rfl rfl hl.1 dX8_clear_4 hP hD hS [1] rfl rfl rfl rfl rfl [] rfl (Nat.le_of_ble_eq_true rfl) rfl ⟨Nat.zero_le _, Nat.zero_le _⟩ (fun H locs hP hD hS => ?_)
  subst hm
  exact k_vret X rfl dX8_clear_7 hP hD hS
theorem hd_X8_clear : yX8_clear.cls = RX8 ∧ yX8_clear.cls ≠ "java/lang/invoke/MethodHandle" ∧ yX8_clear.cls ≠ "java/lang/invoke/VarHandle" ∧ (parseMethodDescriptor yX8_clear.desc).map (fun d => d.parameters.length) = some 0 := by decide +kernel
/-! CoverOrder.Text figureAt -/
set_option maxRecDepth 100000 in
set_option maxHeartbeats 4000000 in
theorem c_X8_figureAt (l : Launch) (G : va_G) (cI cZ cE : ClassId) (a_t a_t_letters a_t_letters_items : Nat) (k_t_letters_size : Int32) (f_t_letters_items : Nat → Int32) (p1 : Int32) (R : Int32) (hm : mX8_figureAt k_t_letters_size f_t_letters_items p1 = R) : kM l yX8_figureAt wsX8_figureAt { frames := 1, cells := 0, slots := 0, locals := 21 } G cI cZ cE [.ref a_t, .int p1] [(a_t, .inr (5, [.ref a_t_letters])), (a_t_letters, .inr (3, [.ref a_t_letters_items, .int k_t_letters_size])), (a_t_letters_items, .inl (cI, 64, .inl f_t_letters_items))] [(a_t, .inr (5, [.ref a_t_letters])), (a_t_letters, .inr (3, [.ref a_t_letters_items, .int k_t_letters_size])), (a_t_letters_items, .inl (cI, 64, .inl f_t_letters_items))] (some (.int R)) := by
  refine kM_of cX8_figureAt 3 (some .int) RX8 (by decide) rfl rfl (Nat.le_of_ble_eq_true rfl) ?_
  intro p e s m below meth c A ls X hA hP hD hS hl
  have hx := X.1.1
  have hb := X.1.2.1
  have hts := X.1.2.2.2.2
  have hown := X.1.2.2.2.1
  have hK := X.2.2.2.1
  have l_14 : (.fieldLink RX8 14 "CoverOrder$Text" "letters" "LCoverOrder$Row;" : Cond).before _ s = true := hts _ (List.mem_of_getElem? (i := 1) (by decide +kernel))
  have i_X8 : ∀ w ∈ u_ws RX8 TX8 1, w ∈ wsX8_figureAt := k_in _ [9] (by decide +kernel)
  have hl : lv_has ls 3 [(0, .ref a_t), (1, .int p1)] := hl
  rw [mX8_figureAt] at hm
  refine lv_aload_n hx hb dX8_figureAt_0 rfl (lv_at hl 0 rfl) ?_
  refine va_get (D := G) (ci := 5) (v := .ref a_t_letters) (C := RX8) (T := TX8) (N := 1) hx hb hts i_X8 hown hK hP 0 rfl rfl 0 (by decide) l_14 (fun _ h9 => h9) rfl dX8_figureAt_1 ?_
  refine lv_iload_n hx hb dX8_figureAt_4 rfl (lv_at hl 1 rfl) ?_
  refine kcV0 (st1 := [.int (mX6_at 64 k_t_letters_size f_t_letters_items p1)]) X hA (c_X6_at l G cI cZ cE a_t_letters a_t_letters_items 64 k_t_letters_size f_t_letters_items p1 _ rfl) (cwV 1 hts gX8_figureAt_X6_at rfl rfl rfl hd_X6_at ⟨Nat.le_of_ble_eq_true rfl, Nat.le_of_ble_eq_true rfl⟩) 1 3 rfl rfl hl.1 dX8_figureAt_5 hP hD hS [1, 2] rfl rfl rfl [] rfl (Nat.le_of_ble_eq_true rfl) rfl ⟨Nat.zero_le _, Nat.zero_le _⟩ (fun H locs hP hD hS => ?_)
  refine lv_istore_n (lv' := [(2, .int (mX6_at 64 k_t_letters_size f_t_letters_items p1)), (0, .ref a_t), (1, .int p1)]) hx hb dX8_figureAt_8 rfl hl (by decide) rfl (fun ls hl => ?_)
  refine lv_iload_n hx hb dX8_figureAt_9 rfl (lv_at hl 0 rfl) ?_
  refine lv_bipush (v := 48) hx hb dX8_figureAt_10 (by decide) ?_
  refine lv_icmp_lt (tgt := 28) hx hb dX8_figureAt_12 (by decide) (fun c12 => ?_) (fun c12 => ?_)
  · rw [if_pos c12] at hm
    refine lv_bipush (v := (-9)) hx hb dX8_figureAt_28 (by decide) ?_
    subst hm
    exact k_iret (v := (-9)) X rfl dX8_figureAt_30 hP hD hS
  · rw [if_neg c12] at hm
    refine lv_iload_n hx hb dX8_figureAt_15 rfl (lv_at hl 0 rfl) ?_
    refine lv_bipush (v := 57) hx hb dX8_figureAt_16 (by decide) ?_
    refine lv_icmp_gt (tgt := 28) hx hb dX8_figureAt_18 (by decide) (fun c18 => ?_) (fun c18 => ?_)
    · rw [if_pos c18] at hm
      refine lv_bipush (v := (-9)) hx hb dX8_figureAt_28 (by decide) ?_
      subst hm
      exact k_iret (v := (-9)) X rfl dX8_figureAt_30 hP hD hS
    · rw [if_neg c18] at hm
      refine lv_iload_n hx hb dX8_figureAt_21 rfl (lv_at hl 0 rfl) ?_
      refine lv_bipush (v := 48) hx hb dX8_figureAt_22 (by decide) ?_
      refine lv_isub hx hb dX8_figureAt_24 ?_
      refine lv_goto (tgt := 30) hx hb dX8_figureAt_25 (by decide) ?_
      subst hm
      exact k_iret (v := (mX6_at 64 k_t_letters_size f_t_letters_items p1) - 48) X rfl dX8_figureAt_30 hP hD hS
theorem hd_X8_figureAt : yX8_figureAt.cls = RX8 ∧ yX8_figureAt.cls ≠ "java/lang/invoke/MethodHandle" ∧ yX8_figureAt.cls ≠ "java/lang/invoke/VarHandle" ∧ (parseMethodDescriptor yX8_figureAt.desc).map (fun d => d.parameters.length) = some 1 := by decide +kernel
/-! CoverOrder.Text isSecondFigure -/
set_option maxRecDepth 100000 in
set_option maxHeartbeats 4000000 in
theorem c_X8_isSecondFigure (l : Launch) (G : va_G) (cI cZ cE : ClassId) (p0 : Int32) (R : Bool) (hm : mX8_isSecondFigure p0 = R) : kM l yX8_isSecondFigure wsX8_isSecondFigure { frames := 0, cells := 0, slots := 0, locals := 0 } G cI cZ cE [.int p0] [] [] (some (.int (bI R))) := by
  refine kM_of cX8_isSecondFigure 1 (some .boolean) RX8 (by decide) rfl rfl (Nat.le_of_ble_eq_true rfl) ?_
  intro p e s m below meth c A ls X hA hP hD hS hl
  have hx := X.1.1
  have hb := X.1.2.1
  have hts := X.1.2.2.2.2
  have hown := X.1.2.2.2.1
  have hK := X.2.2.2.1
  have hl : lv_has ls 1 [(0, .int p0)] := hl
  rw [mX8_isSecondFigure] at hm
  refine lv_iload_n hx hb dX8_isSecondFigure_0 rfl (lv_at hl 0 rfl) ?_
  refine lv_iconst (v := 3) hx hb dX8_isSecondFigure_1 (by decide) ?_
  refine lv_icmp_lt (tgt := 16) hx hb dX8_isSecondFigure_2 (by decide) (fun c2 => ?_) (fun c2 => ?_)
  · rw [if_pos c2] at hm
    refine lv_iconst (v := 0) hx hb dX8_isSecondFigure_16 (by decide) ?_
    subst hm
    exact k_zret (v := false) X rfl dX8_isSecondFigure_17 hP hD hS
  · rw [if_neg c2] at hm
    refine lv_iload_n hx hb dX8_isSecondFigure_5 rfl (lv_at hl 0 rfl) ?_
    refine lv_iconst (v := 2) hx hb dX8_isSecondFigure_6 (by decide) ?_
    refine lv_irem hx hb dX8_isSecondFigure_7 (by decide) ?_
    refine lv_iconst (v := 1) hx hb dX8_isSecondFigure_8 (by decide) ?_
    refine lv_icmp_ne (tgt := 16) hx hb dX8_isSecondFigure_9 (by decide) (fun c9 => ?_) (fun c9 => ?_)
    · rw [if_neg c9] at hm
      refine lv_iconst (v := 0) hx hb dX8_isSecondFigure_16 (by decide) ?_
      subst hm
      exact k_zret (v := false) X rfl dX8_isSecondFigure_17 hP hD hS
    · rw [if_pos c9] at hm
      refine lv_iconst (v := 1) hx hb dX8_isSecondFigure_12 (by decide) ?_
      refine lv_goto (tgt := 17) hx hb dX8_isSecondFigure_13 (by decide) ?_
      subst hm
      exact k_zret (v := true) X rfl dX8_isSecondFigure_17 hP hD hS
theorem hd_X8_isSecondFigure : yX8_isSecondFigure.cls ≠ "java/lang/invoke/MethodHandle" ∧ yX8_isSecondFigure.cls ≠ "java/lang/invoke/VarHandle" ∧ (parseMethodDescriptor yX8_isSecondFigure.desc).map (fun d => d.parameters.length) = some 1 := by decide +kernel
/-! CoverOrder.Text fits -/
set_option maxRecDepth 100000 in
set_option maxHeartbeats 4000000 in
theorem c_X8_fits (l : Launch) (G : va_G) (cI cZ cE : ClassId) (a_t a_t_letters a_t_letters_items : Nat) (k_t_letters_size : Int32) (f_t_letters_items : Nat → Int32) (p1 : Int32) (p2 : Int64) (R : Bool) (hm : mX8_fits k_t_letters_size f_t_letters_items p1 p2 = R) : kM l yX8_fits wsX8_fits { frames := 2, cells := 0, slots := 0, locals := 43 } G cI cZ cE [.ref a_t, .int p1, .long p2] [(a_t, .inr (5, [.ref a_t_letters])), (a_t_letters, .inr (3, [.ref a_t_letters_items, .int k_t_letters_size])), (a_t_letters_items, .inl (cI, 64, .inl f_t_letters_items))] [(a_t, .inr (5, [.ref a_t_letters])), (a_t_letters, .inr (3, [.ref a_t_letters_items, .int k_t_letters_size])), (a_t_letters_items, .inl (cI, 64, .inl f_t_letters_items))] (some (.int (bI R))) := by
  refine kM_of cX8_fits 7 (some .boolean) RX8 (by decide) rfl rfl (Nat.le_of_ble_eq_true rfl) ?_
  intro p e s m below meth c A ls X hA hP hD hS hl
  have hx := X.1.1
  have hb := X.1.2.1
  have hts := X.1.2.2.2.2
  have hown := X.1.2.2.2.1
  have hK := X.2.2.2.1
  have l_14 : (.fieldLink RX8 14 "CoverOrder$Text" "letters" "LCoverOrder$Row;" : Cond).before _ s = true := hts _ (List.mem_of_getElem? (i := 1) (by decide +kernel))
  have i_X8 : ∀ w ∈ u_ws RX8 TX8 1, w ∈ wsX8_fits := k_in _ [38] (by decide +kernel)
  have hl : lv_has ls 7 [(0, .ref a_t), (1, .int p1), (2, .long p2)] := hl
  rw [mX8_fits] at hm
  refine lv_iload_n hx hb dX8_fits_0 rfl (lv_at hl 1 rfl) ?_
  refine lv_if_ne (tgt := 23) hx hb dX8_fits_1 (by decide) (fun c1 => ?_) (fun c1 => ?_)
  · rw [if_neg c1] at hm
    refine lv_aload_n hx hb dX8_fits_23 rfl (lv_at hl 0 rfl) ?_
    refine lv_iload_n hx hb dX8_fits_24 rfl (lv_at hl 1 rfl) ?_
    refine kcV0 (st1 := [.int (mX8_figureAt k_t_letters_size f_t_letters_items p1)]) X hA (c_X8_figureAt l G cI cZ cE a_t a_t_letters a_t_letters_items k_t_letters_size f_t_letters_items p1 _ rfl) (cwV 1 hts gX8_fits_X8_figureAt rfl rfl rfl hd_X8_figureAt ⟨Nat.le_of_ble_eq_true rfl, Nat.le_of_ble_eq_true rfl⟩) 0 5 rfl rfl hl.1 dX8_fits_25 hP hD hS [0, 1, 2] rfl rfl rfl [] rfl (Nat.le_of_ble_eq_true rfl) rfl ⟨Nat.zero_le _, Nat.zero_le _⟩ (fun H locs hP hD hS => ?_)
    refine lv_istore (lv' := [(4, .int (mX8_figureAt k_t_letters_size f_t_letters_items p1)), (0, .ref a_t), (1, .int p1), (2, .long p2)]) hx hb dX8_fits_28 hl (by decide) rfl (fun ls hl => ?_)
    refine lv_iload_n hx hb dX8_fits_30 rfl (lv_at hl 2 rfl) ?_
    refine lv_iconst (v := 1) hx hb dX8_fits_31 (by decide) ?_
    refine lv_icmp_ne (tgt := 54) hx hb dX8_fits_32 (by decide) (fun c32 => ?_) (fun c32 => ?_)
    · rw [if_neg c32] at hm
      refine lv_aload_n hx hb dX8_fits_54 rfl (lv_at hl 1 rfl) ?_
      refine lv_iconst (v := 1) hx hb dX8_fits_55 (by decide) ?_
      refine kcV0 (st1 := [.int (mX8_figureAt k_t_letters_size f_t_letters_items 1)]) X hA (c_X8_figureAt l G cI cZ cE a_t a_t_letters a_t_letters_items k_t_letters_size f_t_letters_items 1 _ rfl) (cwV 1 hts gX8_fits_X8_figureAt rfl rfl rfl hd_X8_figureAt ⟨Nat.le_of_ble_eq_true rfl, Nat.le_of_ble_eq_true rfl⟩) 0 5 rfl rfl hl.1 dX8_fits_56 hP hD hS [0, 1, 2] rfl rfl rfl [] rfl (Nat.le_of_ble_eq_true rfl) rfl ⟨Nat.zero_le _, Nat.zero_le _⟩ (fun H locs hP hD hS => ?_)
      refine lv_istore (lv' := [(5, .int (mX8_figureAt k_t_letters_size f_t_letters_items 1)), (4, .int (mX8_figureAt k_t_letters_size f_t_letters_items p1)), (0, .ref a_t), (1, .int p1), (2, .long p2)]) hx hb dX8_fits_59 hl (by decide) rfl (fun ls hl => ?_)
      refine lv_iload hx hb dX8_fits_61 (lv_at hl 1 rfl) ?_
      refine lv_if_lt (tgt := 73) hx hb dX8_fits_63 (by decide) (fun c63 => ?_) (fun c63 => ?_)
      · rw [if_pos c63] at hm
        refine lv_iconst (v := 0) hx hb dX8_fits_73 (by decide) ?_
        subst hm
        exact k_zret (v := false) X rfl dX8_fits_74 hP hD hS
      · rw [if_neg c63] at hm
        refine lv_iload hx hb dX8_fits_66 (lv_at hl 1 rfl) ?_
        refine lv_iload hx hb dX8_fits_68 (lv_at hl 0 rfl) ?_
        refine lv_icmp_lt (tgt := 75) hx hb dX8_fits_70 (by decide) (fun c70 => ?_) (fun c70 => ?_)
        · rw [if_pos c70] at hm
          refine lv_iload_n hx hb dX8_fits_75 rfl (lv_at hl 3 rfl) ?_
          refine kcS0 (st1 := [.int (bI (mX8_isSecondFigure p1))]) X hA (c_X8_isSecondFigure l G cI cZ cE p1 _ rfl) (va_cwS 1 hts gX8_fits_X8_isSecondFigure rfl rfl rfl hd_X8_isSecondFigure ⟨Nat.le_of_ble_eq_true rfl, Nat.le_of_ble_eq_true rfl⟩) hl.1 dX8_fits_76 hP hD hS [] rfl rfl rfl [] rfl (Nat.le_of_ble_eq_true rfl) rfl ⟨Nat.zero_le _, Nat.zero_le _⟩ (fun H locs hP hD hS => ?_)
          refine lv_if_eq (tgt := 118) hx hb dX8_fits_79 (by decide) (fun c79 => ?_) (fun c79 => ?_)
          · have c79 := kb0 c79
            rw [if_neg c79] at hm
            refine lv_lload_n hx hb dX8_fits_118 rfl (lv_at hl 4 rfl) ?_
            refine lv_iload hx hb dX8_fits_119 (lv_at hl 1 rfl) ?_
            refine kcS0 (st1 := [.int (mX5_line p2 (mX8_figureAt k_t_letters_size f_t_letters_items p1))]) X hA (c_X5_line l G cI cZ cE p2 (mX8_figureAt k_t_letters_size f_t_letters_items p1) _ rfl) (va_cwS 2 hts gX8_fits_X5_line rfl rfl rfl hd_X5_line ⟨Nat.le_of_ble_eq_true rfl, Nat.le_of_ble_eq_true rfl⟩) hl.1 dX8_fits_121 hP hD hS [] rfl rfl rfl [] rfl (Nat.le_of_ble_eq_true rfl) rfl ⟨Nat.zero_le _, Nat.zero_le _⟩ (fun H locs hP hD hS => ?_)
            refine kcS0 (st1 := [.int (mJ6_bitCount_0f7a4 (mX5_line p2 (mX8_figureAt k_t_letters_size f_t_letters_items p1)))]) X hA (c_J6_bitCount_0f7a4 l G cI cZ cE (mX5_line p2 (mX8_figureAt k_t_letters_size f_t_letters_items p1)) _ rfl) (va_cwS 1 hts gX8_fits_J6_bitCount_0f7a4 rfl rfl rfl hd_J6_bitCount_0f7a4 ⟨Nat.le_of_ble_eq_true rfl, Nat.le_of_ble_eq_true rfl⟩) hl.1 dX8_fits_124 hP hD hS [] rfl rfl rfl [] rfl (Nat.le_of_ble_eq_true rfl) rfl ⟨Nat.zero_le _, Nat.zero_le _⟩ (fun H locs hP hD hS => ?_)
            refine lv_iload hx hb dX8_fits_127 (lv_at hl 0 rfl) ?_
            refine lv_iconst (v := 1) hx hb dX8_fits_129 (by decide) ?_
            refine lv_isub hx hb dX8_fits_130 ?_
            have h139 : ∀ (s139_0 : Bool) (H : Heap) (locs : List Loc) (ls : Array Slot), va_P G vwCl [(a_t, .inr (5, [.ref a_t_letters])), (a_t_letters, .inr (3, [.ref a_t_letters_items, .int k_t_letters_size])), (a_t_letters_items, .inl (cI, 64, .inl f_t_letters_items))] H → va_D A [(a_t, .inr (5, [.ref a_t_letters])), (a_t_letters, .inr (3, [.ref a_t_letters_items, .int k_t_letters_size])), (a_t_letters_items, .inl (cI, 64, .inl f_t_letters_items))] → va_S A s.heap H locs → lv_has ls 7 [(2, .long p2)] → mX8_fits_J139 p2 s139_0 = R → W p l e { frames := 2, cells := 0, slots := 0, locals := 43 } s m ([.ref a_t, .int p1, .long p2] : List Value).toArray below meth c H locs 0 0 (kQ below G [(a_t, .inr (5, [.ref a_t_letters])), (a_t_letters, .inr (3, [.ref a_t_letters_items, .int k_t_letters_size])), (a_t_letters_items, .inl (cI, 64, .inl f_t_letters_items))] (some (.int (bI R))) A ([.ref a_t, .int p1, .long p2] : List Value).toArray s) (F0 m 139 ls [.int (bI s139_0)]) := by
              intro s139_0 H locs ls hP hD hS hl hm
              rw [mX8_fits_J139] at hm
              refine lv_istore (lv' := [(6, .int (bI s139_0)), (2, .long p2)]) hx hb dX8_fits_139 hl (by decide) rfl (fun ls hl => ?_)
              refine lv_iload hx hb dX8_fits_141 (lv_at hl 0 rfl) ?_
              refine lv_if_ne (tgt := 159) hx hb dX8_fits_143 (by decide) (fun c143 => ?_) (fun c143 => ?_)
              · have c143 := kb1 c143
                rw [if_pos c143] at hm
                refine lv_iconst (v := 0) hx hb dX8_fits_159 (by decide) ?_
                subst hm
                exact k_zret (v := false) X rfl dX8_fits_160 hP hD hS
              · have c143 := kb0 c143
                rw [if_neg c143] at hm
                refine lv_lload_n hx hb dX8_fits_146 rfl (lv_at hl 1 rfl) ?_
                refine kcS0 (st1 := [.int (mJ13_bitCount_95d88 p2)]) X hA (c_J13_bitCount_95d88 l G cI cZ cE p2 _ rfl) (va_cwS 1 hts gX8_fits_J13_bitCount_95d88 rfl rfl rfl hd_J13_bitCount_95d88 ⟨Nat.le_of_ble_eq_true rfl, Nat.le_of_ble_eq_true rfl⟩) hl.1 dX8_fits_147 hP hD hS [] rfl rfl rfl [] rfl (Nat.le_of_ble_eq_true rfl) rfl ⟨Nat.zero_le _, Nat.zero_le _⟩ (fun H locs hP hD hS => ?_)
                refine lv_bipush (v := 24) hx hb dX8_fits_150 (by decide) ?_
                refine lv_icmp_ge (tgt := 159) hx hb dX8_fits_152 (by decide) (fun c152 => ?_) (fun c152 => ?_)
                · rw [if_pos c152] at hm
                  refine lv_iconst (v := 0) hx hb dX8_fits_159 (by decide) ?_
                  subst hm
                  exact k_zret (v := false) X rfl dX8_fits_160 hP hD hS
                · rw [if_neg c152] at hm
                  refine lv_iconst (v := 1) hx hb dX8_fits_155 (by decide) ?_
                  refine lv_goto (tgt := 160) hx hb dX8_fits_156 (by decide) ?_
                  subst hm
                  exact k_zret (v := true) X rfl dX8_fits_160 hP hD hS
            refine lv_icmp_lt (tgt := 138) hx hb dX8_fits_131 (by decide) (fun c131 => ?_) (fun c131 => ?_)
            · rw [if_pos c131] at hm
              refine lv_iconst (v := 0) hx hb dX8_fits_138 (by decide) ?_
              exact h139 false _ _ _ hP hD hS (lv_sub hl [4] rfl) hm
            · rw [if_neg c131] at hm
              refine lv_iconst (v := 1) hx hb dX8_fits_134 (by decide) ?_
              refine lv_goto (tgt := 139) hx hb dX8_fits_135 (by decide) ?_
              exact h139 true _ _ _ hP hD hS (lv_sub hl [4] rfl) hm
          · have c79 := kb1 c79
            rw [if_pos c79] at hm
            refine lv_aload_n hx hb dX8_fits_82 rfl (lv_at hl 2 rfl) ?_
            refine lv_iload_n hx hb dX8_fits_83 rfl (lv_at hl 3 rfl) ?_
            refine lv_iconst (v := 1) hx hb dX8_fits_84 (by decide) ?_
            refine lv_isub hx hb dX8_fits_85 ?_
            refine kcV0 (st1 := [.int (mX8_figureAt k_t_letters_size f_t_letters_items (p1 - 1))]) X hA (c_X8_figureAt l G cI cZ cE a_t a_t_letters a_t_letters_items k_t_letters_size f_t_letters_items (p1 - 1) _ rfl) (cwV 1 hts gX8_fits_X8_figureAt rfl rfl rfl hd_X8_figureAt ⟨Nat.le_of_ble_eq_true rfl, Nat.le_of_ble_eq_true rfl⟩) 0 5 rfl rfl hl.1 dX8_fits_86 hP hD hS [0, 1, 2] rfl rfl rfl [] rfl (Nat.le_of_ble_eq_true rfl) rfl ⟨Nat.zero_le _, Nat.zero_le _⟩ (fun H locs hP hD hS => ?_)
            refine lv_istore (lv' := [(6, .int (mX8_figureAt k_t_letters_size f_t_letters_items (p1 - 1))), (5, .int (mX8_figureAt k_t_letters_size f_t_letters_items 1)), (4, .int (mX8_figureAt k_t_letters_size f_t_letters_items p1)), (0, .ref a_t), (1, .int p1), (2, .long p2)]) hx hb dX8_fits_89 hl (by decide) rfl (fun ls hl => ?_)
            refine lv_iload hx hb dX8_fits_91 (lv_at hl 2 rfl) ?_
            refine lv_iload hx hb dX8_fits_93 (lv_at hl 0 rfl) ?_
            refine lv_icmp_eq (tgt := 116) hx hb dX8_fits_95 (by decide) (fun c95 => ?_) (fun c95 => ?_)
            · rw [if_pos c95] at hm
              refine lv_iconst (v := 0) hx hb dX8_fits_116 (by decide) ?_
              subst hm
              exact k_zret (v := false) X rfl dX8_fits_117 hP hD hS
            · rw [if_neg c95] at hm
              refine lv_lload_n hx hb dX8_fits_98 rfl (lv_at hl 5 rfl) ?_
              refine lv_iload hx hb dX8_fits_99 (lv_at hl 0 rfl) ?_
              refine kcS0 (st1 := [.int (mX5_line p2 (mX8_figureAt k_t_letters_size f_t_letters_items (p1 - 1)))]) X hA (c_X5_line l G cI cZ cE p2 (mX8_figureAt k_t_letters_size f_t_letters_items (p1 - 1)) _ rfl) (va_cwS 2 hts gX8_fits_X5_line rfl rfl rfl hd_X5_line ⟨Nat.le_of_ble_eq_true rfl, Nat.le_of_ble_eq_true rfl⟩) hl.1 dX8_fits_101 hP hD hS [] rfl rfl rfl [] rfl (Nat.le_of_ble_eq_true rfl) rfl ⟨Nat.zero_le _, Nat.zero_le _⟩ (fun H locs hP hD hS => ?_)
              refine lv_iload hx hb dX8_fits_104 (lv_at hl 2 rfl) ?_
              refine kcS0 (st1 := [.int (bI (mX5_isIn (mX5_line p2 (mX8_figureAt k_t_letters_size f_t_letters_items (p1 - 1))) (mX8_figureAt k_t_letters_size f_t_letters_items p1)))]) X hA (c_X5_isIn l G cI cZ cE (mX5_line p2 (mX8_figureAt k_t_letters_size f_t_letters_items (p1 - 1))) (mX8_figureAt k_t_letters_size f_t_letters_items p1) _ rfl) (va_cwS 2 hts gX8_fits_X5_isIn rfl rfl rfl hd_X5_isIn ⟨Nat.le_of_ble_eq_true rfl, Nat.le_of_ble_eq_true rfl⟩) hl.1 dX8_fits_106 hP hD hS [] rfl rfl rfl [] rfl (Nat.le_of_ble_eq_true rfl) rfl ⟨Nat.zero_le _, Nat.zero_le _⟩ (fun H locs hP hD hS => ?_)
              refine lv_if_ne (tgt := 116) hx hb dX8_fits_109 (by decide) (fun c109 => ?_) (fun c109 => ?_)
              · have c109 := kb1 c109
                rw [if_pos c109] at hm
                refine lv_iconst (v := 0) hx hb dX8_fits_116 (by decide) ?_
                subst hm
                exact k_zret (v := false) X rfl dX8_fits_117 hP hD hS
              · have c109 := kb0 c109
                rw [if_neg c109] at hm
                refine lv_iconst (v := 1) hx hb dX8_fits_112 (by decide) ?_
                refine lv_goto (tgt := 117) hx hb dX8_fits_113 (by decide) ?_
                subst hm
                exact k_zret (v := true) X rfl dX8_fits_117 hP hD hS
        · rw [if_neg c70] at hm
          refine lv_iconst (v := 0) hx hb dX8_fits_73 (by decide) ?_
          subst hm
          exact k_zret (v := false) X rfl dX8_fits_74 hP hD hS
    · rw [if_pos c32] at hm
      refine lv_iload hx hb dX8_fits_35 (lv_at hl 0 rfl) ?_
      refine lv_iconst (v := 1) hx hb dX8_fits_37 (by decide) ?_
      refine lv_icmp_lt (tgt := 52) hx hb dX8_fits_38 (by decide) (fun c38 => ?_) (fun c38 => ?_)
      · rw [if_pos c38] at hm
        refine lv_iconst (v := 0) hx hb dX8_fits_52 (by decide) ?_
        subst hm
        exact k_zret (v := false) X rfl dX8_fits_53 hP hD hS
      · rw [if_neg c38] at hm
        refine lv_iload hx hb dX8_fits_41 (lv_at hl 0 rfl) ?_
        refine lv_bipush (v := 8) hx hb dX8_fits_43 (by decide) ?_
        refine lv_icmp_gt (tgt := 52) hx hb dX8_fits_45 (by decide) (fun c45 => ?_) (fun c45 => ?_)
        · rw [if_pos c45] at hm
          refine lv_iconst (v := 0) hx hb dX8_fits_52 (by decide) ?_
          subst hm
          exact k_zret (v := false) X rfl dX8_fits_53 hP hD hS
        · rw [if_neg c45] at hm
          refine lv_iconst (v := 1) hx hb dX8_fits_48 (by decide) ?_
          refine lv_goto (tgt := 53) hx hb dX8_fits_49 (by decide) ?_
          subst hm
          exact k_zret (v := true) X rfl dX8_fits_53 hP hD hS
  · rw [if_pos c1] at hm
    refine lv_aload_n hx hb dX8_fits_4 rfl (lv_at hl 0 rfl) ?_
    refine va_get (D := G) (ci := 5) (v := .ref a_t_letters) (C := RX8) (T := TX8) (N := 1) hx hb hts i_X8 hown hK hP 0 rfl rfl 0 (by decide) l_14 (fun _ h9 => h9) rfl dX8_fits_5 ?_
    refine lv_iconst (v := 0) hx hb dX8_fits_8 (by decide) ?_
    refine kcV0 (st1 := [.int (mX6_at 64 k_t_letters_size f_t_letters_items 0)]) X hA (c_X6_at l G cI cZ cE a_t_letters a_t_letters_items 64 k_t_letters_size f_t_letters_items 0 _ rfl) (cwV 1 hts gX8_fits_X6_at rfl rfl rfl hd_X6_at ⟨Nat.le_of_ble_eq_true rfl, Nat.le_of_ble_eq_true rfl⟩) 1 3 rfl rfl hl.1 dX8_fits_9 hP hD hS [1, 2] rfl rfl rfl [] rfl (Nat.le_of_ble_eq_true rfl) rfl ⟨Nat.zero_le _, Nat.zero_le _⟩ (fun H locs hP hD hS => ?_)
    refine lv_bipush (v := 68) hx hb dX8_fits_12 (by decide) ?_
    refine lv_icmp_ne (tgt := 21) hx hb dX8_fits_14 (by decide) (fun c14 => ?_) (fun c14 => ?_)
    · rw [if_neg c14] at hm
      refine lv_iconst (v := 0) hx hb dX8_fits_21 (by decide) ?_
      subst hm
      exact k_zret (v := false) X rfl dX8_fits_22 hP hD hS
    · rw [if_pos c14] at hm
      refine lv_iconst (v := 1) hx hb dX8_fits_17 (by decide) ?_
      refine lv_goto (tgt := 22) hx hb dX8_fits_18 (by decide) ?_
      subst hm
      exact k_zret (v := true) X rfl dX8_fits_22 hP hD hS
theorem hd_X8_fits : yX8_fits.cls = RX8 ∧ yX8_fits.cls ≠ "java/lang/invoke/MethodHandle" ∧ yX8_fits.cls ≠ "java/lang/invoke/VarHandle" ∧ (parseMethodDescriptor yX8_fits.desc).map (fun d => d.parameters.length) = some 2 := by decide +kernel
/-! CoverOrder.Text firstFault -/
set_option maxRecDepth 100000 in
set_option maxHeartbeats 4000000 in
theorem c_X8_firstFault (l : Launch) (G : va_G) (cI cZ cE : ClassId) (a_t a_t_letters a_t_letters_items : Nat) (k_t_letters_size : Int32) (f_t_letters_items : Nat → Int32) (R : Int32) (hm : mX8_firstFault k_t_letters_size f_t_letters_items = some R) : kM l yX8_firstFault wsX8_firstFault { frames := 3, cells := 0, slots := 0, locals := 69 } G cI cZ cE [.ref a_t] [(a_t, .inr (5, [.ref a_t_letters])), (a_t_letters, .inr (3, [.ref a_t_letters_items, .int k_t_letters_size])), (a_t_letters_items, .inl (cI, 64, .inl f_t_letters_items))] [(a_t, .inr (5, [.ref a_t_letters])), (a_t_letters, .inr (3, [.ref a_t_letters_items, .int k_t_letters_size])), (a_t_letters_items, .inl (cI, 64, .inl f_t_letters_items))] (some (.int R)) := by
  refine kM_of cX8_firstFault 4 (some .int) RX8 (by decide) rfl rfl (Nat.le_of_ble_eq_true rfl) ?_
  intro p e s m below meth c A ls X hA hP hD hS hl
  have hx := X.1.1
  have hb := X.1.2.1
  have hts := X.1.2.2.2.2
  have hown := X.1.2.2.2.1
  have hK := X.2.2.2.1
  have hl : lv_has ls 4 [(0, .ref a_t)] := hl
  rw [mX8_firstFault] at hm
  refine lv_lconst (v := 0) hx hb dX8_firstFault_0 (by decide) ?_
  refine lv_lstore_n (lv' := [(1, .long 0), (0, .ref a_t)]) hx hb dX8_firstFault_1 rfl hl (by decide) rfl (fun ls hl => ?_)
  refine lv_iconst (v := 0) hx hb dX8_firstFault_2 (by decide) ?_
  refine lv_istore_n (lv' := [(3, .int 0), (1, .long 0), (0, .ref a_t)]) hx hb dX8_firstFault_3 rfl hl (by decide) rfl (fun ls hl => ?_)
  have h4 : ∀ (n4 : Nat), ∀ (v4_1 : Int64) (v4_3 : Int32) (H : Heap) (locs : List Loc) (ls : Array Slot), va_P G vwCl [(a_t, .inr (5, [.ref a_t_letters])), (a_t_letters, .inr (3, [.ref a_t_letters_items, .int k_t_letters_size])), (a_t_letters_items, .inl (cI, 64, .inl f_t_letters_items))] H → va_D A [(a_t, .inr (5, [.ref a_t_letters])), (a_t_letters, .inr (3, [.ref a_t_letters_items, .int k_t_letters_size])), (a_t_letters_items, .inl (cI, 64, .inl f_t_letters_items))] → va_S A s.heap H locs → lv_has ls 4 [(0, .ref a_t), (1, .long v4_1), (3, .int v4_3)] → mX8_firstFault_L4 k_t_letters_size f_t_letters_items n4 v4_1 v4_3 = some R → W p l e { frames := 3, cells := 0, slots := 0, locals := 69 } s m ([.ref a_t] : List Value).toArray below meth c H locs 0 0 (kQ below G [(a_t, .inr (5, [.ref a_t_letters])), (a_t_letters, .inr (3, [.ref a_t_letters_items, .int k_t_letters_size])), (a_t_letters_items, .inl (cI, 64, .inl f_t_letters_items))] (some (.int R)) A ([.ref a_t] : List Value).toArray s) (F0 m 4 ls []) := by
    intro n4
    induction n4 with
    | zero => intro v4_1 v4_3 H locs ls hP hD hS hl hm; rw [mX8_firstFault_L4] at hm; cases hm
    | succ n4 ih4 =>
      intro v4_1 v4_3 H locs ls hP hD hS hl hm
      rw [mX8_firstFault_L4] at hm
      refine lv_iload_n hx hb dX8_firstFault_4 rfl (lv_at hl 2 rfl) ?_
      refine lv_aload_n hx hb dX8_firstFault_5 rfl (lv_at hl 0 rfl) ?_
      refine kcV0 (st1 := [.int (mX8_length k_t_letters_size), .int v4_3]) X hA (c_X8_length l G cI cZ cE a_t a_t_letters a_t_letters_items k_t_letters_size _ rfl) (cwV 0 hts gX8_firstFault_X8_length rfl rfl rfl hd_X8_length ⟨Nat.le_of_ble_eq_true rfl, Nat.le_of_ble_eq_true rfl⟩) 0 5 rfl rfl hl.1 dX8_firstFault_6 hP hD hS [0, 1] rfl rfl rfl [.int v4_3] rfl (Nat.le_of_ble_eq_true rfl) rfl ⟨Nat.zero_le _, Nat.zero_le _⟩ (fun H locs hP hD hS => ?_)
      have h53 : ∀ (H : Heap) (locs : List Loc) (ls : Array Slot), va_P G vwCl [(a_t, .inr (5, [.ref a_t_letters])), (a_t_letters, .inr (3, [.ref a_t_letters_items, .int k_t_letters_size])), (a_t_letters_items, .inl (cI, 64, .inl f_t_letters_items))] H → va_D A [(a_t, .inr (5, [.ref a_t_letters])), (a_t_letters, .inr (3, [.ref a_t_letters_items, .int k_t_letters_size])), (a_t_letters_items, .inl (cI, 64, .inl f_t_letters_items))] → va_S A s.heap H locs → lv_has ls 4 [(0, .ref a_t)] → mX8_firstFault_J53 k_t_letters_size = some R → W p l e { frames := 3, cells := 0, slots := 0, locals := 69 } s m ([.ref a_t] : List Value).toArray below meth c H locs 0 0 (kQ below G [(a_t, .inr (5, [.ref a_t_letters])), (a_t_letters, .inr (3, [.ref a_t_letters_items, .int k_t_letters_size])), (a_t_letters_items, .inl (cI, 64, .inl f_t_letters_items))] (some (.int R)) A ([.ref a_t] : List Value).toArray s) (F0 m 53 ls []) := by
        intro H locs ls hP hD hS hl hm
        rw [mX8_firstFault_J53] at hm
        refine lv_aload_n hx hb dX8_firstFault_53 rfl (lv_at hl 0 rfl) ?_
        refine kcV0 (st1 := [.int (mX8_length k_t_letters_size)]) X hA (c_X8_length l G cI cZ cE a_t a_t_letters a_t_letters_items k_t_letters_size _ rfl) (cwV 0 hts gX8_firstFault_X8_length rfl rfl rfl hd_X8_length ⟨Nat.le_of_ble_eq_true rfl, Nat.le_of_ble_eq_true rfl⟩) 0 5 rfl rfl hl.1 dX8_firstFault_54 hP hD hS [0, 1] rfl rfl rfl [] rfl (Nat.le_of_ble_eq_true rfl) rfl ⟨Nat.zero_le _, Nat.zero_le _⟩ (fun H locs hP hD hS => ?_)
        refine lv_iconst (v := 2) hx hb dX8_firstFault_57 (by decide) ?_
        have h75 : ∀ (s75_0 : Bool) (H : Heap) (locs : List Loc) (ls : Array Slot), va_P G vwCl [(a_t, .inr (5, [.ref a_t_letters])), (a_t_letters, .inr (3, [.ref a_t_letters_items, .int k_t_letters_size])), (a_t_letters_items, .inl (cI, 64, .inl f_t_letters_items))] H → va_D A [(a_t, .inr (5, [.ref a_t_letters])), (a_t_letters, .inr (3, [.ref a_t_letters_items, .int k_t_letters_size])), (a_t_letters_items, .inl (cI, 64, .inl f_t_letters_items))] → va_S A s.heap H locs → lv_has ls 4 [(0, .ref a_t)] → mX8_firstFault_J75 k_t_letters_size s75_0 = some R → W p l e { frames := 3, cells := 0, slots := 0, locals := 69 } s m ([.ref a_t] : List Value).toArray below meth c H locs 0 0 (kQ below G [(a_t, .inr (5, [.ref a_t_letters])), (a_t_letters, .inr (3, [.ref a_t_letters_items, .int k_t_letters_size])), (a_t_letters_items, .inl (cI, 64, .inl f_t_letters_items))] (some (.int R)) A ([.ref a_t] : List Value).toArray s) (F0 m 75 ls [.int (bI s75_0)]) := by
          intro s75_0 H locs ls hP hD hS hl hm
          rw [mX8_firstFault_J75] at hm
          refine lv_istore_n (lv' := [(3, .int (bI s75_0)), (0, .ref a_t)]) hx hb dX8_firstFault_75 rfl hl (by decide) rfl (fun ls hl => ?_)
          refine lv_iload_n hx hb dX8_firstFault_76 rfl (lv_at hl 0 rfl) ?_
          refine lv_if_eq (tgt := 85) hx hb dX8_firstFault_77 (by decide) (fun c77 => ?_) (fun c77 => ?_)
          · have c77 := kb0 c77
            rw [if_neg c77] at hm
            refine lv_aload_n hx hb dX8_firstFault_85 rfl (lv_at hl 1 rfl) ?_
            refine kcV0 (st1 := [.int (mX8_length k_t_letters_size)]) X hA (c_X8_length l G cI cZ cE a_t a_t_letters a_t_letters_items k_t_letters_size _ rfl) (cwV 0 hts gX8_firstFault_X8_length rfl rfl rfl hd_X8_length ⟨Nat.le_of_ble_eq_true rfl, Nat.le_of_ble_eq_true rfl⟩) 0 5 rfl rfl hl.1 dX8_firstFault_86 hP hD hS [0, 1] rfl rfl rfl [] rfl (Nat.le_of_ble_eq_true rfl) rfl ⟨Nat.zero_le _, Nat.zero_le _⟩ (fun H locs hP hD hS => ?_)
            have hm := Option.some.inj hm
            subst hm
            exact k_iret (v := (mX8_length k_t_letters_size)) X rfl dX8_firstFault_89 hP hD hS
          · have c77 := kb1 c77
            rw [if_pos c77] at hm
            refine lv_bipush (v := (-9)) hx hb dX8_firstFault_80 (by decide) ?_
            refine lv_goto (tgt := 89) hx hb dX8_firstFault_82 (by decide) ?_
            have hm := Option.some.inj hm
            subst hm
            exact k_iret (v := (-9)) X rfl dX8_firstFault_89 hP hD hS
        refine lv_icmp_lt (tgt := 74) hx hb dX8_firstFault_58 (by decide) (fun c58 => ?_) (fun c58 => ?_)
        · rw [if_pos c58] at hm
          refine lv_iconst (v := 0) hx hb dX8_firstFault_74 (by decide) ?_
          exact h75 false _ _ _ hP hD hS (lv_sub hl [0] rfl) hm
        · rw [if_neg c58] at hm
          refine lv_aload_n hx hb dX8_firstFault_61 rfl (lv_at hl 0 rfl) ?_
          refine kcV0 (st1 := [.int (mX8_length k_t_letters_size)]) X hA (c_X8_length l G cI cZ cE a_t a_t_letters a_t_letters_items k_t_letters_size _ rfl) (cwV 0 hts gX8_firstFault_X8_length rfl rfl rfl hd_X8_length ⟨Nat.le_of_ble_eq_true rfl, Nat.le_of_ble_eq_true rfl⟩) 0 5 rfl rfl hl.1 dX8_firstFault_62 hP hD hS [0, 1] rfl rfl rfl [] rfl (Nat.le_of_ble_eq_true rfl) rfl ⟨Nat.zero_le _, Nat.zero_le _⟩ (fun H locs hP hD hS => ?_)
          refine lv_iconst (v := 2) hx hb dX8_firstFault_65 (by decide) ?_
          refine lv_irem hx hb dX8_firstFault_66 (by decide) ?_
          refine lv_if_ne (tgt := 74) hx hb dX8_firstFault_67 (by decide) (fun c67 => ?_) (fun c67 => ?_)
          · rw [if_neg c67] at hm
            refine lv_iconst (v := 0) hx hb dX8_firstFault_74 (by decide) ?_
            exact h75 false _ _ _ hP hD hS (lv_sub hl [0] rfl) hm
          · rw [if_pos c67] at hm
            refine lv_iconst (v := 1) hx hb dX8_firstFault_70 (by decide) ?_
            refine lv_goto (tgt := 75) hx hb dX8_firstFault_71 (by decide) ?_
            exact h75 true _ _ _ hP hD hS (lv_sub hl [0] rfl) hm
      refine lv_icmp_ge (tgt := 53) hx hb dX8_firstFault_9 (by decide) (fun c9 => ?_) (fun c9 => ?_)
      · rw [if_pos c9] at hm
        exact h53 _ _ _ hP hD hS (lv_sub hl [0] rfl) hm
      · rw [if_neg c9] at hm
        refine lv_aload_n hx hb dX8_firstFault_12 rfl (lv_at hl 0 rfl) ?_
        refine lv_iload_n hx hb dX8_firstFault_13 rfl (lv_at hl 2 rfl) ?_
        refine lv_lload_n hx hb dX8_firstFault_14 rfl (lv_at hl 1 rfl) ?_
        refine kcV0 (st1 := [.int (bI (mX8_fits k_t_letters_size f_t_letters_items v4_3 v4_1))]) X hA (c_X8_fits l G cI cZ cE a_t a_t_letters a_t_letters_items k_t_letters_size f_t_letters_items v4_3 v4_1 _ rfl) (cwV 2 hts gX8_firstFault_X8_fits rfl rfl rfl hd_X8_fits ⟨Nat.le_of_ble_eq_true rfl, Nat.le_of_ble_eq_true rfl⟩) 0 5 rfl rfl hl.1 dX8_firstFault_15 hP hD hS [0, 1, 2] rfl rfl rfl [] rfl (Nat.le_of_ble_eq_true rfl) rfl ⟨Nat.zero_le _, Nat.zero_le _⟩ (fun H locs hP hD hS => ?_)
        refine lv_if_ne (tgt := 23) hx hb dX8_firstFault_18 (by decide) (fun c18 => ?_) (fun c18 => ?_)
        · have c18 := kb1 c18
          rw [if_pos c18] at hm
          refine lv_iload_n hx hb dX8_firstFault_23 rfl (lv_at hl 2 rfl) ?_
          refine kcS0 (st1 := [.int (bI (mX8_isSecondFigure v4_3))]) X hA (c_X8_isSecondFigure l G cI cZ cE v4_3 _ rfl) (va_cwS 1 hts gX8_firstFault_X8_isSecondFigure rfl rfl rfl hd_X8_isSecondFigure ⟨Nat.le_of_ble_eq_true rfl, Nat.le_of_ble_eq_true rfl⟩) hl.1 dX8_firstFault_24 hP hD hS [] rfl rfl rfl [] rfl (Nat.le_of_ble_eq_true rfl) rfl ⟨Nat.zero_le _, Nat.zero_le _⟩ (fun H locs hP hD hS => ?_)
          refine lv_if_eq (tgt := 47) hx hb dX8_firstFault_27 (by decide) (fun c27 => ?_) (fun c27 => ?_)
          · have c27 := kb0 c27
            rw [if_neg c27] at hm
            refine lv_iinc (v := v4_3 + 1) (lv' := [(3, .int (v4_3 + 1)), (0, .ref a_t), (1, .long v4_1)]) hx hb dX8_firstFault_47 hl (k := 2) rfl rfl (by decide) rfl (fun ls hl => ?_)
            refine lv_goto (tgt := 4) hx hb dX8_firstFault_50 (by decide) ?_
            exact ih4 v4_1 (v4_3 + 1) _ _ _ hP hD hS (lv_sub hl [1, 2, 0] rfl) hm
          · have c27 := kb1 c27
            rw [if_pos c27] at hm
            refine lv_lload_n hx hb dX8_firstFault_30 rfl (lv_at hl 1 rfl) ?_
            refine lv_aload_n hx hb dX8_firstFault_31 rfl (lv_at hl 0 rfl) ?_
            refine lv_iload_n hx hb dX8_firstFault_32 rfl (lv_at hl 2 rfl) ?_
            refine lv_iconst (v := 1) hx hb dX8_firstFault_33 (by decide) ?_
            refine lv_isub hx hb dX8_firstFault_34 ?_
            refine kcV0 (st1 := [.int (mX8_figureAt k_t_letters_size f_t_letters_items (v4_3 - 1)), .long v4_1]) X hA (c_X8_figureAt l G cI cZ cE a_t a_t_letters a_t_letters_items k_t_letters_size f_t_letters_items (v4_3 - 1) _ rfl) (cwV 1 hts gX8_firstFault_X8_figureAt rfl rfl rfl hd_X8_figureAt ⟨Nat.le_of_ble_eq_true rfl, Nat.le_of_ble_eq_true rfl⟩) 0 5 rfl rfl hl.1 dX8_firstFault_35 hP hD hS [0, 1, 2] rfl rfl rfl [.long v4_1] rfl (Nat.le_of_ble_eq_true rfl) rfl ⟨Nat.zero_le _, Nat.zero_le _⟩ (fun H locs hP hD hS => ?_)
            refine lv_aload_n hx hb dX8_firstFault_38 rfl (lv_at hl 0 rfl) ?_
            refine lv_iload_n hx hb dX8_firstFault_39 rfl (lv_at hl 2 rfl) ?_
            refine kcV0 (st1 := [.int (mX8_figureAt k_t_letters_size f_t_letters_items v4_3), .int (mX8_figureAt k_t_letters_size f_t_letters_items (v4_3 - 1)), .long v4_1]) X hA (c_X8_figureAt l G cI cZ cE a_t a_t_letters a_t_letters_items k_t_letters_size f_t_letters_items v4_3 _ rfl) (cwV 1 hts gX8_firstFault_X8_figureAt rfl rfl rfl hd_X8_figureAt ⟨Nat.le_of_ble_eq_true rfl, Nat.le_of_ble_eq_true rfl⟩) 0 5 rfl rfl hl.1 dX8_firstFault_40 hP hD hS [0, 1, 2] rfl rfl rfl [.int (mX8_figureAt k_t_letters_size f_t_letters_items (v4_3 - 1)), .long v4_1] rfl (Nat.le_of_ble_eq_true rfl) rfl ⟨Nat.zero_le _, Nat.zero_le _⟩ (fun H locs hP hD hS => ?_)
            refine kcS0 (st1 := [.long (mX5_flipped v4_1 (mX8_figureAt k_t_letters_size f_t_letters_items (v4_3 - 1)) (mX8_figureAt k_t_letters_size f_t_letters_items v4_3))]) X hA (c_X5_flipped l G cI cZ cE v4_1 (mX8_figureAt k_t_letters_size f_t_letters_items (v4_3 - 1)) (mX8_figureAt k_t_letters_size f_t_letters_items v4_3) _ rfl) (va_cwS 3 hts gX8_firstFault_X5_flipped rfl rfl rfl hd_X5_flipped ⟨Nat.le_of_ble_eq_true rfl, Nat.le_of_ble_eq_true rfl⟩) hl.1 dX8_firstFault_43 hP hD hS [] rfl rfl rfl [] rfl (Nat.le_of_ble_eq_true rfl) rfl ⟨Nat.zero_le _, Nat.zero_le _⟩ (fun H locs hP hD hS => ?_)
            refine lv_lstore_n (lv' := [(1, .long (mX5_flipped v4_1 (mX8_figureAt k_t_letters_size f_t_letters_items (v4_3 - 1)) (mX8_figureAt k_t_letters_size f_t_letters_items v4_3))), (0, .ref a_t), (3, .int v4_3)]) hx hb dX8_firstFault_46 rfl hl (by decide) rfl (fun ls hl => ?_)
            refine lv_iinc (v := v4_3 + 1) (lv' := [(3, .int (v4_3 + 1)), (1, .long (mX5_flipped v4_1 (mX8_figureAt k_t_letters_size f_t_letters_items (v4_3 - 1)) (mX8_figureAt k_t_letters_size f_t_letters_items v4_3))), (0, .ref a_t)]) hx hb dX8_firstFault_47 hl (k := 2) rfl rfl (by decide) rfl (fun ls hl => ?_)
            refine lv_goto (tgt := 4) hx hb dX8_firstFault_50 (by decide) ?_
            exact ih4 (mX5_flipped v4_1 (mX8_figureAt k_t_letters_size f_t_letters_items (v4_3 - 1)) (mX8_figureAt k_t_letters_size f_t_letters_items v4_3)) (v4_3 + 1) _ _ _ hP hD hS (lv_sub hl [2, 1, 0] rfl) hm
        · have c18 := kb0 c18
          rw [if_neg c18] at hm
          refine lv_iload_n hx hb dX8_firstFault_21 rfl (lv_at hl 2 rfl) ?_
          have hm := Option.some.inj hm
          subst hm
          exact k_iret (v := v4_3) X rfl dX8_firstFault_22 hP hD hS
  exact h4 kFU 0 0 _ _ _ hP hD hS (lv_sub hl [2, 1, 0] rfl) hm
theorem hd_X8_firstFault : yX8_firstFault.cls = RX8 ∧ yX8_firstFault.cls ≠ "java/lang/invoke/MethodHandle" ∧ yX8_firstFault.cls ≠ "java/lang/invoke/VarHandle" ∧ (parseMethodDescriptor yX8_firstFault.desc).map (fun d => d.parameters.length) = some 0 := by decide +kernel
/-! CoverOrder.Text readInto -/
set_option maxRecDepth 100000 in
set_option maxHeartbeats 4000000 in
theorem c_X8_readInto (l : Launch) (G : va_G) (cI cZ cE : ClassId) (a_t a_t_letters a_t_letters_items a_o0 a_o0_row a_o0_row_items : Nat) (k_t_letters_size : Int32) (f_t_letters_items : Nat → Int32) (k_o0_knots : Int32) (k_o0_nextStamp : Int32) (k_o0_row_size : Int32) (f_o0_row_items : Nat → Int32) (R : Int32 × Int32 × Int32 × (Nat → Int32)) (hm : mX8_readInto k_t_letters_size f_t_letters_items k_o0_knots k_o0_nextStamp k_o0_row_size f_o0_row_items = some R) : kM l yX8_readInto wsX8_readInto { frames := 4, cells := 0, slots := 0, locals := 87 } G cI cZ cE [.ref a_t, .ref a_o0] [(a_t, .inr (5, [.ref a_t_letters])), (a_t_letters, .inr (3, [.ref a_t_letters_items, .int k_t_letters_size])), (a_t_letters_items, .inl (cI, 64, .inl f_t_letters_items)), (a_o0, .inr (2, [.ref a_o0_row, .int k_o0_knots, .int k_o0_nextStamp])), (a_o0_row, .inr (3, [.ref a_o0_row_items, .int k_o0_row_size])), (a_o0_row_items, .inl (cI, 24, .inl f_o0_row_items))] [(a_t, .inr (5, [.ref a_t_letters])), (a_t_letters, .inr (3, [.ref a_t_letters_items, .int k_t_letters_size])), (a_t_letters_items, .inl (cI, 64, .inl f_t_letters_items)), (a_o0, .inr (2, [.ref a_o0_row, .int R.1, .int R.2.1])), (a_o0_row, .inr (3, [.ref a_o0_row_items, .int R.2.2.1])), (a_o0_row_items, .inl (cI, 24, .inl R.2.2.2))] none := by
  refine kM_of cX8_readInto 3 none RX8 (by decide) rfl rfl (Nat.le_of_ble_eq_true rfl) ?_
  intro p e s m below meth c A ls X hA hP hD hS hl
  have hx := X.1.1
  have hb := X.1.2.1
  have hts := X.1.2.2.2.2
  have hown := X.1.2.2.2.1
  have hK := X.2.2.2.1
  have hl : lv_has ls 3 [(0, .ref a_t), (1, .ref a_o0)] := hl
  rw [mX8_readInto] at hm
  refine lv_aload_n hx hb dX8_readInto_0 rfl (lv_at hl 1 rfl) ?_
  refine lv_aload_n hx hb dX8_readInto_1 rfl (lv_at hl 0 rfl) ?_
  refine lv_iconst (v := 1) hx hb dX8_readInto_2 (by decide) ?_
  refine kcV0 (st1 := [.int (mX8_figureAt k_t_letters_size f_t_letters_items 1), .ref a_o0]) X hA (c_X8_figureAt l G cI cZ cE a_t a_t_letters a_t_letters_items k_t_letters_size f_t_letters_items 1 _ rfl) (cwV 1 hts gX8_readInto_X8_figureAt rfl rfl rfl hd_X8_figureAt ⟨Nat.le_of_ble_eq_true rfl, Nat.le_of_ble_eq_true rfl⟩) 0 5 rfl rfl hl.1 dX8_readInto_3 hP hD hS [0, 1, 2] rfl rfl rfl [.ref a_o0] rfl (Nat.le_of_ble_eq_true rfl) rfl ⟨Nat.zero_le _, Nat.zero_le _⟩ (fun H locs hP hD hS => ?_)
  refine kcV (ws1 := [(a_t, .inr (5, [.ref a_t_letters])), (a_t_letters, .inr (3, [.ref a_t_letters_items, .int k_t_letters_size])), (a_t_letters_items, .inl (cI, 64, .inl f_t_letters_items)), (a_o0, .inr (2, [.ref a_o0_row, .int ((mX3_restart k_o0_knots k_o0_nextStamp k_o0_row_size (mX8_figureAt k_t_letters_size f_t_letters_items 1)).1), .int ((mX3_restart k_o0_knots k_o0_nextStamp k_o0_row_size (mX8_figureAt k_t_letters_size f_t_letters_items 1)).2.1)])), (a_o0_row, .inr (3, [.ref a_o0_row_items, .int ((mX3_restart k_o0_knots k_o0_nextStamp k_o0_row_size (mX8_figureAt k_t_letters_size f_t_letters_items 1)).2.2)])), (a_o0_row_items, .inl (cI, 24, .inl f_o0_row_items))]) (st1 := []) X hA (c_X3_restart l G cI cZ cE a_o0 a_o0_row a_o0_row_items k_o0_knots k_o0_nextStamp k_o0_row_size (mX8_figureAt k_t_letters_size f_t_letters_items 1) (mX3_restart k_o0_knots k_o0_nextStamp k_o0_row_size (mX8_figureAt k_t_letters_size f_t_letters_items 1)) rfl) (cwV 1 hts gX8_readInto_X3_restart rfl rfl rfl hd_X3_restart ⟨Nat.le_of_ble_eq_true rfl, Nat.le_of_ble_eq_true rfl⟩) 3 2 rfl rfl hl.1 dX8_readInto_6 hP hD hS [3, 4] rfl rfl rfl rfl rfl [] rfl (Nat.le_of_ble_eq_true rfl) rfl ⟨Nat.zero_le _, Nat.zero_le _⟩ (fun H locs hP hD hS => ?_)
  refine lv_iconst (v := 3) hx hb dX8_readInto_9 (by decide) ?_
  refine lv_istore_n (lv' := [(2, .int 3), (0, .ref a_t), (1, .ref a_o0)]) hx hb dX8_readInto_10 rfl hl (by decide) rfl (fun ls hl => ?_)
  have h11 : ∀ (n11 : Nat), ∀ (v11_2 : Int32) (w11_k_o0_nextStamp : Int32) (w11_k_o0_row_size : Int32) (w11_f_o0_row_items : Nat → Int32) (H : Heap) (locs : List Loc) (ls : Array Slot), va_P G vwCl [(a_t, .inr (5, [.ref a_t_letters])), (a_t_letters, .inr (3, [.ref a_t_letters_items, .int k_t_letters_size])), (a_t_letters_items, .inl (cI, 64, .inl f_t_letters_items)), (a_o0, .inr (2, [.ref a_o0_row, .int ((mX3_restart k_o0_knots k_o0_nextStamp k_o0_row_size (mX8_figureAt k_t_letters_size f_t_letters_items 1)).1), .int w11_k_o0_nextStamp])), (a_o0_row, .inr (3, [.ref a_o0_row_items, .int w11_k_o0_row_size])), (a_o0_row_items, .inl (cI, 24, .inl w11_f_o0_row_items))] H → va_D A [(a_t, .inr (5, [.ref a_t_letters])), (a_t_letters, .inr (3, [.ref a_t_letters_items, .int k_t_letters_size])), (a_t_letters_items, .inl (cI, 64, .inl f_t_letters_items)), (a_o0, .inr (2, [.ref a_o0_row, .int ((mX3_restart k_o0_knots k_o0_nextStamp k_o0_row_size (mX8_figureAt k_t_letters_size f_t_letters_items 1)).1), .int w11_k_o0_nextStamp])), (a_o0_row, .inr (3, [.ref a_o0_row_items, .int w11_k_o0_row_size])), (a_o0_row_items, .inl (cI, 24, .inl w11_f_o0_row_items))] → va_S A s.heap H locs → lv_has ls 3 [(0, .ref a_t), (1, .ref a_o0), (2, .int v11_2)] → mX8_readInto_L11 k_t_letters_size f_t_letters_items k_o0_knots k_o0_nextStamp k_o0_row_size n11 v11_2 w11_k_o0_nextStamp w11_k_o0_row_size w11_f_o0_row_items = some R → W p l e { frames := 4, cells := 0, slots := 0, locals := 87 } s m ([.ref a_t, .ref a_o0] : List Value).toArray below meth c H locs 0 0 (kQ below G [(a_t, .inr (5, [.ref a_t_letters])), (a_t_letters, .inr (3, [.ref a_t_letters_items, .int k_t_letters_size])), (a_t_letters_items, .inl (cI, 64, .inl f_t_letters_items)), (a_o0, .inr (2, [.ref a_o0_row, .int R.1, .int R.2.1])), (a_o0_row, .inr (3, [.ref a_o0_row_items, .int R.2.2.1])), (a_o0_row_items, .inl (cI, 24, .inl R.2.2.2))] none A ([.ref a_t, .ref a_o0] : List Value).toArray s) (F0 m 11 ls []) := by
    intro n11
    induction n11 with
    | zero => intro v11_2 w11_k_o0_nextStamp w11_k_o0_row_size w11_f_o0_row_items H locs ls hP hD hS hl hm; rw [mX8_readInto_L11] at hm; cases hm
    | succ n11 ih11 =>
      intro v11_2 w11_k_o0_nextStamp w11_k_o0_row_size w11_f_o0_row_items H locs ls hP hD hS hl hm
      rw [mX8_readInto_L11] at hm
      refine lv_iload_n hx hb dX8_readInto_11 rfl (lv_at hl 2 rfl) ?_
      refine lv_aload_n hx hb dX8_readInto_12 rfl (lv_at hl 0 rfl) ?_
      refine kcV0 (st1 := [.int (mX8_length k_t_letters_size), .int v11_2]) X hA (c_X8_length l G cI cZ cE a_t a_t_letters a_t_letters_items k_t_letters_size _ rfl) (cwV 0 hts gX8_readInto_X8_length rfl rfl rfl hd_X8_length ⟨Nat.le_of_ble_eq_true rfl, Nat.le_of_ble_eq_true rfl⟩) 0 5 rfl rfl hl.1 dX8_readInto_13 hP hD hS [0, 1] rfl rfl rfl [.int v11_2] rfl (Nat.le_of_ble_eq_true rfl) rfl ⟨Nat.zero_le _, Nat.zero_le _⟩ (fun H locs hP hD hS => ?_)
      refine lv_icmp_ge (tgt := 42) hx hb dX8_readInto_16 (by decide) (fun c16 => ?_) (fun c16 => ?_)
      · rw [if_pos c16] at hm
        have hm := Option.some.inj hm
        subst hm
        exact k_vret X rfl dX8_readInto_42 hP hD hS
      · rw [if_neg c16] at hm
        refine lv_aload_n hx hb dX8_readInto_19 rfl (lv_at hl 1 rfl) ?_
        refine lv_aload_n hx hb dX8_readInto_20 rfl (lv_at hl 0 rfl) ?_
        refine lv_iload_n hx hb dX8_readInto_21 rfl (lv_at hl 2 rfl) ?_
        refine lv_iconst (v := 1) hx hb dX8_readInto_22 (by decide) ?_
        refine lv_isub hx hb dX8_readInto_23 ?_
        refine kcV0 (st1 := [.int (mX8_figureAt k_t_letters_size f_t_letters_items (v11_2 - 1)), .ref a_o0]) X hA (c_X8_figureAt l G cI cZ cE a_t a_t_letters a_t_letters_items k_t_letters_size f_t_letters_items (v11_2 - 1) _ rfl) (cwV 1 hts gX8_readInto_X8_figureAt rfl rfl rfl hd_X8_figureAt ⟨Nat.le_of_ble_eq_true rfl, Nat.le_of_ble_eq_true rfl⟩) 0 5 rfl rfl hl.1 dX8_readInto_24 hP hD hS [0, 1, 2] rfl rfl rfl [.ref a_o0] rfl (Nat.le_of_ble_eq_true rfl) rfl ⟨Nat.zero_le _, Nat.zero_le _⟩ (fun H locs hP hD hS => ?_)
        refine lv_aload_n hx hb dX8_readInto_27 rfl (lv_at hl 0 rfl) ?_
        refine lv_iload_n hx hb dX8_readInto_28 rfl (lv_at hl 2 rfl) ?_
        refine kcV0 (st1 := [.int (mX8_figureAt k_t_letters_size f_t_letters_items v11_2), .int (mX8_figureAt k_t_letters_size f_t_letters_items (v11_2 - 1)), .ref a_o0]) X hA (c_X8_figureAt l G cI cZ cE a_t a_t_letters a_t_letters_items k_t_letters_size f_t_letters_items v11_2 _ rfl) (cwV 1 hts gX8_readInto_X8_figureAt rfl rfl rfl hd_X8_figureAt ⟨Nat.le_of_ble_eq_true rfl, Nat.le_of_ble_eq_true rfl⟩) 0 5 rfl rfl hl.1 dX8_readInto_29 hP hD hS [0, 1, 2] rfl rfl rfl [.int (mX8_figureAt k_t_letters_size f_t_letters_items (v11_2 - 1)), .ref a_o0] rfl (Nat.le_of_ble_eq_true rfl) rfl ⟨Nat.zero_le _, Nat.zero_le _⟩ (fun H locs hP hD hS => ?_)
        obtain ⟨r32, hc32, hm⟩ := kbind hm
        refine kcV (ws1 := [(a_t, .inr (5, [.ref a_t_letters])), (a_t_letters, .inr (3, [.ref a_t_letters_items, .int k_t_letters_size])), (a_t_letters_items, .inl (cI, 64, .inl f_t_letters_items)), (a_o0, .inr (2, [.ref a_o0_row, .int ((mX3_restart k_o0_knots k_o0_nextStamp k_o0_row_size (mX8_figureAt k_t_letters_size f_t_letters_items 1)).1), .int r32.2.1])), (a_o0_row, .inr (3, [.ref a_o0_row_items, .int r32.2.2.1])), (a_o0_row_items, .inl (cI, 24, .inl r32.2.2.2))]) (st1 := [.int r32.1]) X hA (c_X3_append l G cI cZ cE a_o0 a_o0_row a_o0_row_items ((mX3_restart k_o0_knots k_o0_nextStamp k_o0_row_size (mX8_figureAt k_t_letters_size f_t_letters_items 1)).1) w11_k_o0_nextStamp w11_k_o0_row_size w11_f_o0_row_items (mX8_figureAt k_t_letters_size f_t_letters_items (v11_2 - 1)) (mX8_figureAt k_t_letters_size f_t_letters_items v11_2) r32 hc32) (cwV 2 hts gX8_readInto_X3_append rfl rfl rfl hd_X3_append ⟨Nat.le_of_ble_eq_true rfl, Nat.le_of_ble_eq_true rfl⟩) 3 2 rfl rfl hl.1 dX8_readInto_32 hP hD hS [3, 4, 5] rfl rfl rfl rfl rfl [] rfl (Nat.le_of_ble_eq_true rfl) rfl ⟨Nat.zero_le _, Nat.zero_le _⟩ (fun H locs hP hD hS => ?_)
        refine lv_pop hx hb dX8_readInto_35 rfl ?_
        refine lv_iinc (v := v11_2 + 2) (lv' := [(2, .int (v11_2 + 2)), (0, .ref a_t), (1, .ref a_o0)]) hx hb dX8_readInto_36 hl (k := 2) rfl rfl (by decide) rfl (fun ls hl => ?_)
        refine lv_goto (tgt := 11) hx hb dX8_readInto_39 (by decide) ?_
        exact ih11 (v11_2 + 2) r32.2.1 r32.2.2.1 r32.2.2.2 _ _ _ hP hD hS (lv_sub hl [1, 2, 0] rfl) hm
  exact h11 kFU 3 ((mX3_restart k_o0_knots k_o0_nextStamp k_o0_row_size (mX8_figureAt k_t_letters_size f_t_letters_items 1)).2.1) ((mX3_restart k_o0_knots k_o0_nextStamp k_o0_row_size (mX8_figureAt k_t_letters_size f_t_letters_items 1)).2.2) f_o0_row_items _ _ _ hP hD hS (lv_sub hl [1, 2, 0] rfl) hm
theorem hd_X8_readInto : yX8_readInto.cls = RX8 ∧ yX8_readInto.cls ≠ "java/lang/invoke/MethodHandle" ∧ yX8_readInto.cls ≠ "java/lang/invoke/VarHandle" ∧ (parseMethodDescriptor yX8_readInto.desc).map (fun d => d.parameters.length) = some 1 := by decide +kernel
