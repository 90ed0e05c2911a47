/-! CoverOrder.Row size -/
set_option maxRecDepth 100000 in
set_option maxHeartbeats 4000000 in
theorem c_X6_size (l : Launch) (G : va_G) (cI cZ cE : ClassId) (a_t a_t_items : Nat) (k_t_size : Int32) (R : Int32) (hm : mX6_size k_t_size = R) : kM l yX6_size wsX6_size { frames := 0, cells := 0, slots := 0, locals := 0 } G cI cZ cE [.ref a_t] [(a_t, .inr (3, [.ref a_t_items, .int k_t_size]))] [(a_t, .inr (3, [.ref a_t_items, .int k_t_size]))] (some (.int R)) := by
  refine kM_of cX6_size 1 (some .int) RX6 (by decide) rfl rfl (Nat.le_of_ble_eq_true rfl) ?_
  intro p e s m below meth c A ls X hA hP hD hS hl
  have hx := X.1.1
  have hb := X.1.2.1
  have hts := X.1.2.2.2.2
  have hown := X.1.2.2.2.1
  have hK := X.2.2.2.1
  have l_21 : (.fieldLink RX6 21 "CoverOrder$Row" "size" "I" : Cond).before _ s = true := hts _ (List.mem_of_getElem? (i := 1) (by decide +kernel))
  have i_X6 : ∀ w ∈ u_ws RX6 TX6 2, w ∈ wsX6_size := k_in _ [2, 3] (by decide +kernel)
  have hl : lv_has ls 1 [(0, .ref a_t)] := hl
  rw [mX6_size] at hm
  refine lv_aload_n hx hb dX6_size_0 rfl (lv_at hl 0 rfl) ?_
  refine va_get (D := G) (ci := 3) (v := .int k_t_size) (C := RX6) (T := TX6) (N := 2) hx hb hts i_X6 hown hK hP 0 rfl rfl 1 (by decide) l_21 (fun _ h9 => h9) rfl dX6_size_1 ?_
  subst hm
  exact k_iret (v := k_t_size) X rfl dX6_size_4 hP hD hS
theorem hd_X6_size : yX6_size.cls = RX6 ∧ yX6_size.cls ≠ "java/lang/invoke/MethodHandle" ∧ yX6_size.cls ≠ "java/lang/invoke/VarHandle" ∧ (parseMethodDescriptor yX6_size.desc).map (fun d => d.parameters.length) = some 0 := by decide +kernel
/-! CoverOrder.Row clear -/
set_option maxRecDepth 100000 in
set_option maxHeartbeats 4000000 in
theorem c_X6_clear (l : Launch) (G : va_G) (cI cZ cE : ClassId) (a_t a_t_items : Nat) (k_t_size : Int32) (R : Int32) (hm : mX6_clear k_t_size = R) : kM l yX6_clear wsX6_clear { frames := 0, cells := 0, slots := 0, locals := 0 } G cI cZ cE [.ref a_t] [(a_t, .inr (3, [.ref a_t_items, .int k_t_size]))] [(a_t, .inr (3, [.ref a_t_items, .int R]))] none := by
  refine kM_of cX6_clear 1 none RX6 (by decide) rfl rfl (Nat.le_of_ble_eq_true rfl) ?_
  intro p e s m below meth c A ls X hA hP hD hS hl
  have hx := X.1.1
  have hb := X.1.2.1
  have hts := X.1.2.2.2.2
  have hown := X.1.2.2.2.1
  have hK := X.2.2.2.1
  have l_21 : (.fieldLink RX6 21 "CoverOrder$Row" "size" "I" : Cond).before _ s = true := hts _ (List.mem_of_getElem? (i := 1) (by decide +kernel))
  have i_X6 : ∀ w ∈ u_ws RX6 TX6 2, w ∈ wsX6_clear := k_in _ [2, 3] (by decide +kernel)
  have hl : lv_has ls 1 [(0, .ref a_t)] := hl
  rw [mX6_clear] at hm
  refine lv_aload_n hx hb dX6_clear_0 rfl (lv_at hl 0 rfl) ?_
  refine lv_iconst (v := 0) hx hb dX6_clear_1 (by decide) ?_
  refine va_put (D := G) (ci := 3) (v := .int 0) (ty := .int) (C := RX6) (T := TX6) (N := 2) hx hb hts i_X6 tyX6 tyX6_ok nmX6 hown hK hP hD hS 0 rfl rfl 1 (by decide) l_21 (fun _ h9 => h9) rfl (by decide +kernel) rfl rfl (Nat.le_of_ble_eq_true rfl) dX6_clear_2 (fun H locs hP hD hS => ?_)
  have hP : va_P G vwCl [(a_t, .inr (3, [.ref a_t_items, .int 0]))] H := hP
  have hD : va_D A [(a_t, .inr (3, [.ref a_t_items, .int 0]))] := hD
  subst hm
  exact k_vret X rfl dX6_clear_5 hP hD hS
theorem hd_X6_clear : yX6_clear.cls = RX6 ∧ yX6_clear.cls ≠ "java/lang/invoke/MethodHandle" ∧ yX6_clear.cls ≠ "java/lang/invoke/VarHandle" ∧ (parseMethodDescriptor yX6_clear.desc).map (fun d => d.parameters.length) = some 0 := by decide +kernel
/-! CoverOrder.Row isFull -/
set_option maxRecDepth 100000 in
set_option maxHeartbeats 4000000 in
theorem c_X6_isFull (l : Launch) (G : va_G) (cI cZ cE : ClassId) (a_t a_t_items : Nat) (n_t : Nat) (k_t_size : Int32) (f_t_items : Nat → Int32) (R : Bool) (hm : mX6_isFull n_t k_t_size = R) : kM l yX6_isFull wsX6_isFull { frames := 0, cells := 0, slots := 0, locals := 0 } G cI cZ cE [.ref a_t] [(a_t, .inr (3, [.ref a_t_items, .int k_t_size])), (a_t_items, .inl (cI, n_t, .inl f_t_items))] [(a_t, .inr (3, [.ref a_t_items, .int k_t_size])), (a_t_items, .inl (cI, n_t, .inl f_t_items))] (some (.int (bI R))) := by
  refine kM_of cX6_isFull 1 (some .boolean) RX6 (by decide) rfl rfl (Nat.le_of_ble_eq_true rfl) ?_
  intro p e s m below meth c A ls X hA hP hD hS hl
  have hx := X.1.1
  have hb := X.1.2.1
  have hts := X.1.2.2.2.2
  have hown := X.1.2.2.2.1
  have hK := X.2.2.2.1
  have l_21 : (.fieldLink RX6 21 "CoverOrder$Row" "size" "I" : Cond).before _ s = true := hts _ (List.mem_of_getElem? (i := 1) (by decide +kernel))
  have i_X6 : ∀ w ∈ u_ws RX6 TX6 2, w ∈ wsX6_isFull := k_in _ [3, 4] (by decide +kernel)
  have l_15 : (.fieldLink RX6 15 "CoverOrder$Row" "items" "[I" : Cond).before _ s = true := hts _ (List.mem_of_getElem? (i := 2) (by decide +kernel))
  have hl : lv_has ls 1 [(0, .ref a_t)] := hl
  rw [mX6_isFull] at hm
  refine lv_aload_n hx hb dX6_isFull_0 rfl (lv_at hl 0 rfl) ?_
  refine va_get (D := G) (ci := 3) (v := .int k_t_size) (C := RX6) (T := TX6) (N := 2) hx hb hts i_X6 hown hK hP 0 rfl rfl 1 (by decide) l_21 (fun _ h9 => h9) rfl dX6_isFull_1 ?_
  refine lv_aload_n hx hb dX6_isFull_4 rfl (lv_at hl 0 rfl) ?_
  refine va_get (D := G) (ci := 3) (v := .ref a_t_items) (C := RX6) (T := TX6) (N := 2) hx hb hts i_X6 hown hK hP 0 rfl rfl 0 (by decide) l_15 (fun _ h9 => h9) rfl dX6_isFull_5 ?_
  refine va_alen (v := Int32.ofNat n_t) hx hb hK hP 1 0 rfl rfl rfl dX6_isFull_8 ?_
  refine lv_icmp_lt (tgt := 16) hx hb dX6_isFull_9 (by decide) (fun c9 => ?_) (fun c9 => ?_)
  · rw [if_pos c9] at hm
    refine lv_iconst (v := 0) hx hb dX6_isFull_16 (by decide) ?_
    subst hm
    exact k_zret (v := false) X rfl dX6_isFull_17 hP hD hS
  · rw [if_neg c9] at hm
    refine lv_iconst (v := 1) hx hb dX6_isFull_12 (by decide) ?_
    refine lv_goto (tgt := 17) hx hb dX6_isFull_13 (by decide) ?_
    subst hm
    exact k_zret (v := true) X rfl dX6_isFull_17 hP hD hS
theorem hd_X6_isFull : yX6_isFull.cls = RX6 ∧ yX6_isFull.cls ≠ "java/lang/invoke/MethodHandle" ∧ yX6_isFull.cls ≠ "java/lang/invoke/VarHandle" ∧ (parseMethodDescriptor yX6_isFull.desc).map (fun d => d.parameters.length) = some 0 := by decide +kernel
/-! CoverOrder.Row takeOut -/
set_option maxRecDepth 100000 in
set_option maxHeartbeats 4000000 in
theorem c_X6_takeOut (l : Launch) (G : va_G) (cI cZ cE : ClassId) (a_t a_t_items : Nat) (n_t : Nat) (k_t_size : Int32) (f_t_items : Nat → Int32) (p1 : Int32) (R : Int32 × Int32 × (Nat → Int32)) (hm : mX6_takeOut n_t k_t_size f_t_items p1 = some R) : kM l yX6_takeOut wsX6_takeOut { frames := 0, cells := 0, slots := 0, locals := 0 } G cI cZ cE [.ref a_t, .int p1] [(a_t, .inr (3, [.ref a_t_items, .int k_t_size])), (a_t_items, .inl (cI, n_t, .inl f_t_items))] [(a_t, .inr (3, [.ref a_t_items, .int R.2.1])), (a_t_items, .inl (cI, n_t, .inl R.2.2))] (some (.int R.1)) := by
  refine kM_of cX6_takeOut 4 (some .int) RX6 (by decide) rfl rfl (Nat.le_of_ble_eq_true rfl) ?_
  intro p e s m below meth c A ls X hA hP hD hS hl
  have hx := X.1.1
  have hb := X.1.2.1
  have hts := X.1.2.2.2.2
  have hown := X.1.2.2.2.1
  have hK := X.2.2.2.1
  have l_21 : (.fieldLink RX6 21 "CoverOrder$Row" "size" "I" : Cond).before _ s = true := hts _ (List.mem_of_getElem? (i := 1) (by decide +kernel))
  have i_X6 : ∀ w ∈ u_ws RX6 TX6 2, w ∈ wsX6_takeOut := k_in _ [3, 4] (by decide +kernel)
  have l_15 : (.fieldLink RX6 15 "CoverOrder$Row" "items" "[I" : Cond).before _ s = true := hts _ (List.mem_of_getElem? (i := 2) (by decide +kernel))
  have hl : lv_has ls 4 [(0, .ref a_t), (1, .int p1)] := hl
  rw [mX6_takeOut] at hm
  refine lv_iload_n hx hb dX6_takeOut_0 rfl (lv_at hl 1 rfl) ?_
  refine lv_if_lt (tgt := 24) hx hb dX6_takeOut_1 (by decide) (fun c1 => ?_) (fun c1 => ?_)
  · rw [if_pos c1] at hm
    refine lv_bipush (v := (-9)) hx hb dX6_takeOut_24 (by decide) ?_
    have hm := Option.some.inj hm
    subst hm
    exact k_iret (v := (-9)) X rfl dX6_takeOut_26 hP hD hS
  · rw [if_neg c1] at hm
    refine lv_iload_n hx hb dX6_takeOut_4 rfl (lv_at hl 1 rfl) ?_
    refine lv_aload_n hx hb dX6_takeOut_5 rfl (lv_at hl 0 rfl) ?_
    refine va_get (D := G) (ci := 3) (v := .int k_t_size) (C := RX6) (T := TX6) (N := 2) hx hb hts i_X6 hown hK hP 0 rfl rfl 1 (by decide) l_21 (fun _ h9 => h9) rfl dX6_takeOut_6 ?_
    refine lv_icmp_ge (tgt := 24) hx hb dX6_takeOut_9 (by decide) (fun c9 => ?_) (fun c9 => ?_)
    · rw [if_pos c9] at hm
      refine lv_bipush (v := (-9)) hx hb dX6_takeOut_24 (by decide) ?_
      have hm := Option.some.inj hm
      subst hm
      exact k_iret (v := (-9)) X rfl dX6_takeOut_26 hP hD hS
    · rw [if_neg c9] at hm
      refine lv_aload_n hx hb dX6_takeOut_12 rfl (lv_at hl 0 rfl) ?_
      refine va_get (D := G) (ci := 3) (v := .int k_t_size) (C := RX6) (T := TX6) (N := 2) hx hb hts i_X6 hown hK hP 0 rfl rfl 1 (by decide) l_21 (fun _ h9 => h9) rfl dX6_takeOut_13 ?_
      refine lv_aload_n hx hb dX6_takeOut_16 rfl (lv_at hl 0 rfl) ?_
      refine va_get (D := G) (ci := 3) (v := .ref a_t_items) (C := RX6) (T := TX6) (N := 2) hx hb hts i_X6 hown hK hP 0 rfl rfl 0 (by decide) l_15 (fun _ h9 => h9) rfl dX6_takeOut_17 ?_
      refine va_alen (v := Int32.ofNat n_t) hx hb hK hP 1 0 rfl rfl rfl dX6_takeOut_20 ?_
      refine lv_icmp_le (tgt := 27) hx hb dX6_takeOut_21 (by decide) (fun c21 => ?_) (fun c21 => ?_)
      · rw [if_pos c21] at hm
        refine lv_aload_n hx hb dX6_takeOut_27 rfl (lv_at hl 0 rfl) ?_
        refine va_get (D := G) (ci := 3) (v := .ref a_t_items) (C := RX6) (T := TX6) (N := 2) hx hb hts i_X6 hown hK hP 0 rfl rfl 0 (by decide) l_15 (fun _ h9 => h9) rfl dX6_takeOut_28 ?_
        refine lv_iload_n hx hb dX6_takeOut_31 rfl (lv_at hl 1 rfl) ?_
        obtain ⟨g32, hm⟩ := gd_some hm
        refine va_iald hx hb hK hP 1 0 rfl rfl (kin_ok g32) dX6_takeOut_32 ?_
        refine lv_istore_n (lv' := [(2, .int (f_t_items (Int32.toNatClampNeg p1))), (0, .ref a_t), (1, .int p1)]) hx hb dX6_takeOut_33 rfl hl (by decide) rfl (fun ls hl => ?_)
        refine lv_aload_n hx hb dX6_takeOut_34 rfl (lv_at hl 1 rfl) ?_
        refine lv_dup hx hb dX6_takeOut_35 rfl ?_
        refine va_get (D := G) (ci := 3) (v := .int k_t_size) (C := RX6) (T := TX6) (N := 2) hx hb hts i_X6 hown hK hP 0 rfl rfl 1 (by decide) l_21 (fun _ h9 => h9) rfl dX6_takeOut_36 ?_
        refine lv_iconst (v := 1) hx hb dX6_takeOut_39 (by decide) ?_
        refine lv_isub hx hb dX6_takeOut_40 ?_
        refine va_put (D := G) (ci := 3) (v := .int (k_t_size - 1)) (ty := .int) (C := RX6) (T := TX6) (N := 2) hx hb hts i_X6 tyX6 tyX6_ok nmX6 hown hK hP hD hS 0 rfl rfl 1 (by decide) l_21 (fun _ h9 => h9) rfl (by decide +kernel) rfl rfl (Nat.le_of_ble_eq_true rfl) dX6_takeOut_41 (fun H locs hP hD hS => ?_)
        have hP : va_P G vwCl [(a_t, .inr (3, [.ref a_t_items, .int (k_t_size - 1)])), (a_t_items, .inl (cI, n_t, .inl f_t_items))] H := hP
        have hD : va_D A [(a_t, .inr (3, [.ref a_t_items, .int (k_t_size - 1)])), (a_t_items, .inl (cI, n_t, .inl f_t_items))] := hD
        refine lv_iload_n hx hb dX6_takeOut_44 rfl (lv_at hl 2 rfl) ?_
        refine lv_istore_n (lv' := [(3, .int p1), (2, .int (f_t_items (Int32.toNatClampNeg p1))), (0, .ref a_t), (1, .int p1)]) hx hb dX6_takeOut_45 rfl hl (by decide) rfl (fun ls hl => ?_)
        have h46 : ∀ (n46 : Nat), ∀ (v46_3 : Int32) (w46_f_t_items : Nat → Int32) (H : Heap) (locs : List Loc) (ls : Array Slot), va_P G vwCl [(a_t, .inr (3, [.ref a_t_items, .int (k_t_size - 1)])), (a_t_items, .inl (cI, n_t, .inl w46_f_t_items))] H → va_D A [(a_t, .inr (3, [.ref a_t_items, .int (k_t_size - 1)])), (a_t_items, .inl (cI, n_t, .inl w46_f_t_items))] → va_S A s.heap H locs → lv_has ls 4 [(0, .ref a_t), (2, .int (f_t_items (Int32.toNatClampNeg p1))), (3, .int v46_3)] → mX6_takeOut_L46 k_t_size f_t_items n_t p1 n46 v46_3 w46_f_t_items = some R → W p l e { frames := 0, cells := 0, slots := 0, locals := 0 } s m ([.ref a_t, .int p1] : List Value).toArray below meth c H locs 0 0 (kQ below G [(a_t, .inr (3, [.ref a_t_items, .int R.2.1])), (a_t_items, .inl (cI, n_t, .inl R.2.2))] (some (.int R.1)) A ([.ref a_t, .int p1] : List Value).toArray s) (F0 m 46 ls []) := by
          intro n46
          induction n46 with
          | zero => intro v46_3 w46_f_t_items H locs ls hP hD hS hl hm; rw [mX6_takeOut_L46] at hm; cases hm
          | succ n46 ih46 =>
            intro v46_3 w46_f_t_items H locs ls hP hD hS hl hm
            rw [mX6_takeOut_L46] at hm
            refine lv_iload_n hx hb dX6_takeOut_46 rfl (lv_at hl 2 rfl) ?_
            refine lv_aload_n hx hb dX6_takeOut_47 rfl (lv_at hl 0 rfl) ?_
            refine va_get (D := G) (ci := 3) (v := .int (k_t_size - 1)) (C := RX6) (T := TX6) (N := 2) hx hb hts i_X6 hown hK hP 0 rfl rfl 1 (by decide) l_21 (fun _ h9 => h9) rfl dX6_takeOut_48 ?_
            refine lv_icmp_ge (tgt := 74) hx hb dX6_takeOut_51 (by decide) (fun c51 => ?_) (fun c51 => ?_)
            · rw [if_pos c51] at hm
              refine lv_iload_n hx hb dX6_takeOut_74 rfl (lv_at hl 1 rfl) ?_
              have hm := Option.some.inj hm
              subst hm
              exact k_iret (v := f_t_items (Int32.toNatClampNeg p1)) X rfl dX6_takeOut_75 hP hD hS
            · rw [if_neg c51] at hm
              refine lv_aload_n hx hb dX6_takeOut_54 rfl (lv_at hl 0 rfl) ?_
              refine va_get (D := G) (ci := 3) (v := .ref a_t_items) (C := RX6) (T := TX6) (N := 2) hx hb hts i_X6 hown hK hP 0 rfl rfl 0 (by decide) l_15 (fun _ h9 => h9) rfl dX6_takeOut_55 ?_
              refine lv_iload_n hx hb dX6_takeOut_58 rfl (lv_at hl 2 rfl) ?_
              refine lv_aload_n hx hb dX6_takeOut_59 rfl (lv_at hl 0 rfl) ?_
              refine va_get (D := G) (ci := 3) (v := .ref a_t_items) (C := RX6) (T := TX6) (N := 2) hx hb hts i_X6 hown hK hP 0 rfl rfl 0 (by decide) l_15 (fun _ h9 => h9) rfl dX6_takeOut_60 ?_
              refine lv_iload_n hx hb dX6_takeOut_63 rfl (lv_at hl 2 rfl) ?_
              refine lv_iconst (v := 1) hx hb dX6_takeOut_64 (by decide) ?_
              refine lv_iadd hx hb dX6_takeOut_65 ?_
              obtain ⟨g66, hm⟩ := gd_some hm
              refine va_iald hx hb hK hP 1 0 rfl rfl (kin_ok g66) dX6_takeOut_66 ?_
              obtain ⟨g67, hm⟩ := gd_some hm
              refine va_iast hx hb hK hP hD hS 1 0 rfl rfl (kin_ok g67) dX6_takeOut_67 (fun H locs hP hD hS => ?_)
              have hP : va_P G vwCl [(a_t, .inr (3, [.ref a_t_items, .int (k_t_size - 1)])), (a_t_items, .inl (cI, n_t, .inl (upd w46_f_t_items (Int32.toNatClampNeg v46_3) (w46_f_t_items (Int32.toNatClampNeg (v46_3 + 1))))))] H := hP
              have hD : va_D A [(a_t, .inr (3, [.ref a_t_items, .int (k_t_size - 1)])), (a_t_items, .inl (cI, n_t, .inl (upd w46_f_t_items (Int32.toNatClampNeg v46_3) (w46_f_t_items (Int32.toNatClampNeg (v46_3 + 1))))))] := hD
              refine lv_iinc (v := v46_3 + 1) (lv' := [(3, .int (v46_3 + 1)), (0, .ref a_t), (2, .int (f_t_items (Int32.toNatClampNeg p1)))]) hx hb dX6_takeOut_68 hl (k := 2) rfl rfl (by decide) rfl (fun ls hl => ?_)
              refine lv_goto (tgt := 46) hx hb dX6_takeOut_71 (by decide) ?_
              exact ih46 (v46_3 + 1) (upd w46_f_t_items (Int32.toNatClampNeg v46_3) (w46_f_t_items (Int32.toNatClampNeg (v46_3 + 1)))) _ _ _ hP hD hS (lv_sub hl [1, 2, 0] rfl) hm
        exact h46 kFU p1 f_t_items _ _ _ hP hD hS (lv_sub hl [2, 1, 0] rfl) hm
      · rw [if_neg c21] at hm
        refine lv_bipush (v := (-9)) hx hb dX6_takeOut_24 (by decide) ?_
        have hm := Option.some.inj hm
        subst hm
        exact k_iret (v := (-9)) X rfl dX6_takeOut_26 hP hD hS
theorem hd_X6_takeOut : yX6_takeOut.cls = RX6 ∧ yX6_takeOut.cls ≠ "java/lang/invoke/MethodHandle" ∧ yX6_takeOut.cls ≠ "java/lang/invoke/VarHandle" ∧ (parseMethodDescriptor yX6_takeOut.desc).map (fun d => d.parameters.length) = some 1 := by decide +kernel
/-! CoverOrder.Row putIn -/
set_option maxRecDepth 100000 in
set_option maxHeartbeats 4000000 in
theorem c_X6_putIn (l : Launch) (G : va_G) (cI cZ cE : ClassId) (a_t a_t_items : Nat) (n_t : Nat) (k_t_size : Int32) (f_t_items : Nat → Int32) (p1 : Int32) (p2 : Int32) (R : Int32 × (Nat → Int32)) (hm : mX6_putIn n_t k_t_size f_t_items p1 p2 = some R) : kM l yX6_putIn wsX6_putIn { frames := 1, cells := 0, slots := 0, locals := 20 } G cI cZ cE [.ref a_t, .int p1, .int p2] [(a_t, .inr (3, [.ref a_t_items, .int k_t_size])), (a_t_items, .inl (cI, n_t, .inl f_t_items))] [(a_t, .inr (3, [.ref a_t_items, .int R.1])), (a_t_items, .inl (cI, n_t, .inl R.2))] none := by
  refine kM_of cX6_putIn 4 none RX6 (by decide) rfl rfl (Nat.le_of_ble_eq_true rfl) ?_
  intro p e s m below meth c A ls X hA hP hD hS hl
  have hx := X.1.1
  have hb := X.1.2.1
  have hts := X.1.2.2.2.2
  have hown := X.1.2.2.2.1
  have hK := X.2.2.2.1
  have l_21 : (.fieldLink RX6 21 "CoverOrder$Row" "size" "I" : Cond).before _ s = true := hts _ (List.mem_of_getElem? (i := 1) (by decide +kernel))
  have i_X6 : ∀ w ∈ u_ws RX6 TX6 2, w ∈ wsX6_putIn := k_in _ [8, 9] (by decide +kernel)
  have l_15 : (.fieldLink RX6 15 "CoverOrder$Row" "items" "[I" : Cond).before _ s = true := hts _ (List.mem_of_getElem? (i := 2) (by decide +kernel))
  have hl : lv_has ls 4 [(0, .ref a_t), (1, .int p1), (2, .int p2)] := hl
  rw [mX6_putIn] at hm
  refine lv_iload_n hx hb dX6_putIn_0 rfl (lv_at hl 1 rfl) ?_
  refine lv_if_lt (tgt := 19) hx hb dX6_putIn_1 (by decide) (fun c1 => ?_) (fun c1 => ?_)
  · rw [if_pos c1] at hm
    have hm := Option.some.inj hm
    subst hm
    exact k_vret X rfl dX6_putIn_19 hP hD hS
  · rw [if_neg c1] at hm
    refine lv_iload_n hx hb dX6_putIn_4 rfl (lv_at hl 1 rfl) ?_
    refine lv_aload_n hx hb dX6_putIn_5 rfl (lv_at hl 0 rfl) ?_
    refine va_get (D := G) (ci := 3) (v := .int k_t_size) (C := RX6) (T := TX6) (N := 2) hx hb hts i_X6 hown hK hP 0 rfl rfl 1 (by decide) l_21 (fun _ h9 => h9) rfl dX6_putIn_6 ?_
    refine lv_icmp_gt (tgt := 19) hx hb dX6_putIn_9 (by decide) (fun c9 => ?_) (fun c9 => ?_)
    · rw [if_pos c9] at hm
      have hm := Option.some.inj hm
      subst hm
      exact k_vret X rfl dX6_putIn_19 hP hD hS
    · rw [if_neg c9] at hm
      refine lv_aload_n hx hb dX6_putIn_12 rfl (lv_at hl 0 rfl) ?_
      refine kcV0 (st1 := [.int (bI (mX6_isFull n_t k_t_size))]) X hA (c_X6_isFull l G cI cZ cE a_t a_t_items n_t k_t_size f_t_items _ rfl) (cwV 0 hts gX6_putIn_X6_isFull rfl rfl rfl hd_X6_isFull ⟨Nat.le_of_ble_eq_true rfl, Nat.le_of_ble_eq_true rfl⟩) 0 3 rfl rfl hl.1 dX6_putIn_13 hP hD hS [0, 1] rfl rfl rfl [] rfl (Nat.le_of_ble_eq_true rfl) rfl ⟨Nat.zero_le _, Nat.zero_le _⟩ (fun H locs hP hD hS => ?_)
      refine lv_if_eq (tgt := 20) hx hb dX6_putIn_16 (by decide) (fun c16 => ?_) (fun c16 => ?_)
      · have c16 := kb0 c16
        rw [if_neg c16] at hm
        refine lv_aload_n hx hb dX6_putIn_20 rfl (lv_at hl 0 rfl) ?_
        refine va_get (D := G) (ci := 3) (v := .int k_t_size) (C := RX6) (T := TX6) (N := 2) hx hb hts i_X6 hown hK hP 0 rfl rfl 1 (by decide) l_21 (fun _ h9 => h9) rfl dX6_putIn_21 ?_
        refine lv_istore_n (lv' := [(3, .int k_t_size), (0, .ref a_t), (1, .int p1), (2, .int p2)]) hx hb dX6_putIn_24 rfl hl (by decide) rfl (fun ls hl => ?_)
        have h25 : ∀ (n25 : Nat), ∀ (v25_3 : Int32) (w25_f_t_items : Nat → Int32) (H : Heap) (locs : List Loc) (ls : Array Slot), va_P G vwCl [(a_t, .inr (3, [.ref a_t_items, .int k_t_size])), (a_t_items, .inl (cI, n_t, .inl w25_f_t_items))] H → va_D A [(a_t, .inr (3, [.ref a_t_items, .int k_t_size])), (a_t_items, .inl (cI, n_t, .inl w25_f_t_items))] → va_S A s.heap H locs → lv_has ls 4 [(0, .ref a_t), (1, .int p1), (2, .int p2), (3, .int v25_3)] → mX6_putIn_L25 k_t_size n_t p1 p2 n25 v25_3 w25_f_t_items = some R → W p l e { frames := 1, cells := 0, slots := 0, locals := 20 } s m ([.ref a_t, .int p1, .int p2] : List Value).toArray below meth c H locs 0 0 (kQ below G [(a_t, .inr (3, [.ref a_t_items, .int R.1])), (a_t_items, .inl (cI, n_t, .inl R.2))] none A ([.ref a_t, .int p1, .int p2] : List Value).toArray s) (F0 m 25 ls []) := by
          intro n25
          induction n25 with
          | zero => intro v25_3 w25_f_t_items H locs ls hP hD hS hl hm; rw [mX6_putIn_L25] at hm; cases hm
          | succ n25 ih25 =>
            intro v25_3 w25_f_t_items H locs ls hP hD hS hl hm
            rw [mX6_putIn_L25] at hm
            refine lv_iload_n hx hb dX6_putIn_25 rfl (lv_at hl 3 rfl) ?_
            refine lv_iload_n hx hb dX6_putIn_26 rfl (lv_at hl 1 rfl) ?_
            have h50 : ∀ (H : Heap) (locs : List Loc) (ls : Array Slot), va_P G vwCl [(a_t, .inr (3, [.ref a_t_items, .int k_t_size])), (a_t_items, .inl (cI, n_t, .inl w25_f_t_items))] H → va_D A [(a_t, .inr (3, [.ref a_t_items, .int k_t_size])), (a_t_items, .inl (cI, n_t, .inl w25_f_t_items))] → va_S A s.heap H locs → lv_has ls 4 [(0, .ref a_t), (1, .int p1), (2, .int p2)] → mX6_putIn_J50 k_t_size n_t p1 p2 w25_f_t_items = some R → W p l e { frames := 1, cells := 0, slots := 0, locals := 20 } s m ([.ref a_t, .int p1, .int p2] : List Value).toArray below meth c H locs 0 0 (kQ below G [(a_t, .inr (3, [.ref a_t_items, .int R.1])), (a_t_items, .inl (cI, n_t, .inl R.2))] none A ([.ref a_t, .int p1, .int p2] : List Value).toArray s) (F0 m 50 ls []) := by
              intro H locs ls hP hD hS hl hm
              rw [mX6_putIn_J50] at hm
              refine lv_aload_n hx hb dX6_putIn_50 rfl (lv_at hl 0 rfl) ?_
              refine va_get (D := G) (ci := 3) (v := .ref a_t_items) (C := RX6) (T := TX6) (N := 2) hx hb hts i_X6 hown hK hP 0 rfl rfl 0 (by decide) l_15 (fun _ h9 => h9) rfl dX6_putIn_51 ?_
              refine lv_iload_n hx hb dX6_putIn_54 rfl (lv_at hl 1 rfl) ?_
              refine lv_iload_n hx hb dX6_putIn_55 rfl (lv_at hl 2 rfl) ?_
              obtain ⟨g56, hm⟩ := gd_some hm
              refine va_iast hx hb hK hP hD hS 1 0 rfl rfl (kin_ok g56) dX6_putIn_56 (fun H locs hP hD hS => ?_)
              have hP : va_P G vwCl [(a_t, .inr (3, [.ref a_t_items, .int k_t_size])), (a_t_items, .inl (cI, n_t, .inl (upd w25_f_t_items (Int32.toNatClampNeg p1) p2)))] H := hP
              have hD : va_D A [(a_t, .inr (3, [.ref a_t_items, .int k_t_size])), (a_t_items, .inl (cI, n_t, .inl (upd w25_f_t_items (Int32.toNatClampNeg p1) p2)))] := hD
              refine lv_aload_n hx hb dX6_putIn_57 rfl (lv_at hl 0 rfl) ?_
              refine lv_dup hx hb dX6_putIn_58 rfl ?_
              refine va_get (D := G) (ci := 3) (v := .int k_t_size) (C := RX6) (T := TX6) (N := 2) hx hb hts i_X6 hown hK hP 0 rfl rfl 1 (by decide) l_21 (fun _ h9 => h9) rfl dX6_putIn_59 ?_
              refine lv_iconst (v := 1) hx hb dX6_putIn_62 (by decide) ?_
              refine lv_iadd hx hb dX6_putIn_63 ?_
              refine va_put (D := G) (ci := 3) (v := .int (k_t_size + 1)) (ty := .int) (C := RX6) (T := TX6) (N := 2) hx hb hts i_X6 tyX6 tyX6_ok nmX6 hown hK hP hD hS 0 rfl rfl 1 (by decide) l_21 (fun _ h9 => h9) rfl (by decide +kernel) rfl rfl (Nat.le_of_ble_eq_true rfl) dX6_putIn_64 (fun H locs hP hD hS => ?_)
              have hP : va_P G vwCl [(a_t, .inr (3, [.ref a_t_items, .int (k_t_size + 1)])), (a_t_items, .inl (cI, n_t, .inl (upd w25_f_t_items (Int32.toNatClampNeg p1) p2)))] H := hP
              have hD : va_D A [(a_t, .inr (3, [.ref a_t_items, .int (k_t_size + 1)])), (a_t_items, .inl (cI, n_t, .inl (upd w25_f_t_items (Int32.toNatClampNeg p1) p2)))] := hD
              have hm := Option.some.inj hm
              subst hm
              exact k_vret X rfl dX6_putIn_67 hP hD hS
            refine lv_icmp_le (tgt := 50) hx hb dX6_putIn_27 (by decide) (fun c27 => ?_) (fun c27 => ?_)
            · rw [if_pos c27] at hm
              exact h50 _ _ _ hP hD hS (lv_sub hl [0, 1, 2] rfl) hm
            · rw [if_neg c27] at hm
              refine lv_aload_n hx hb dX6_putIn_30 rfl (lv_at hl 0 rfl) ?_
              refine va_get (D := G) (ci := 3) (v := .ref a_t_items) (C := RX6) (T := TX6) (N := 2) hx hb hts i_X6 hown hK hP 0 rfl rfl 0 (by decide) l_15 (fun _ h9 => h9) rfl dX6_putIn_31 ?_
              refine lv_iload_n hx hb dX6_putIn_34 rfl (lv_at hl 3 rfl) ?_
              refine lv_aload_n hx hb dX6_putIn_35 rfl (lv_at hl 0 rfl) ?_
              refine va_get (D := G) (ci := 3) (v := .ref a_t_items) (C := RX6) (T := TX6) (N := 2) hx hb hts i_X6 hown hK hP 0 rfl rfl 0 (by decide) l_15 (fun _ h9 => h9) rfl dX6_putIn_36 ?_
              refine lv_iload_n hx hb dX6_putIn_39 rfl (lv_at hl 3 rfl) ?_
              refine lv_iconst (v := 1) hx hb dX6_putIn_40 (by decide) ?_
              refine lv_isub hx hb dX6_putIn_41 ?_
              obtain ⟨g42, hm⟩ := gd_some hm
              refine va_iald hx hb hK hP 1 0 rfl rfl (kin_ok g42) dX6_putIn_42 ?_
              obtain ⟨g43, hm⟩ := gd_some hm
              refine va_iast hx hb hK hP hD hS 1 0 rfl rfl (kin_ok g43) dX6_putIn_43 (fun H locs hP hD hS => ?_)
              have hP : va_P G vwCl [(a_t, .inr (3, [.ref a_t_items, .int k_t_size])), (a_t_items, .inl (cI, n_t, .inl (upd w25_f_t_items (Int32.toNatClampNeg v25_3) (w25_f_t_items (Int32.toNatClampNeg (v25_3 - 1))))))] H := hP
              have hD : va_D A [(a_t, .inr (3, [.ref a_t_items, .int k_t_size])), (a_t_items, .inl (cI, n_t, .inl (upd w25_f_t_items (Int32.toNatClampNeg v25_3) (w25_f_t_items (Int32.toNatClampNeg (v25_3 - 1))))))] := hD
              refine lv_iinc (v := v25_3 + (-1)) (lv' := [(3, .int (v25_3 + (-1))), (0, .ref a_t), (1, .int p1), (2, .int p2)]) hx hb dX6_putIn_44 hl (k := 3) rfl rfl (by decide) rfl (fun ls hl => ?_)
              refine lv_goto (tgt := 25) hx hb dX6_putIn_47 (by decide) ?_
              exact ih25 (v25_3 + (-1)) (upd w25_f_t_items (Int32.toNatClampNeg v25_3) (w25_f_t_items (Int32.toNatClampNeg (v25_3 - 1)))) _ _ _ hP hD hS (lv_sub hl [1, 2, 3, 0] rfl) hm
        exact h25 kFU k_t_size f_t_items _ _ _ hP hD hS (lv_sub hl [1, 2, 3, 0] rfl) hm
      · have c16 := kb1 c16
        rw [if_pos c16] at hm
        have hm := Option.some.inj hm
        subst hm
        exact k_vret X rfl dX6_putIn_19 hP hD hS
theorem hd_X6_putIn : yX6_putIn.cls = RX6 ∧ yX6_putIn.cls ≠ "java/lang/invoke/MethodHandle" ∧ yX6_putIn.cls ≠ "java/lang/invoke/VarHandle" ∧ (parseMethodDescriptor yX6_putIn.desc).map (fun d => d.parameters.length) = some 2 := by decide +kernel
/-! CoverOrder.Row add -/
set_option maxRecDepth 100000 in
set_option maxHeartbeats 4000000 in
theorem c_X6_add (l : Launch) (G : va_G) (cI cZ cE : ClassId) (a_t a_t_items : Nat) (n_t : Nat) (k_t_size : Int32) (f_t_items : Nat → Int32) (p1 : Int32) (R : Int32 × (Nat → Int32)) (hm : mX6_add n_t k_t_size f_t_items p1 = some R) : kM l yX6_add wsX6_add { frames := 2, cells := 0, slots := 0, locals := 43 } G cI cZ cE [.ref a_t, .int p1] [(a_t, .inr (3, [.ref a_t_items, .int k_t_size])), (a_t_items, .inl (cI, n_t, .inl f_t_items))] [(a_t, .inr (3, [.ref a_t_items, .int R.1])), (a_t_items, .inl (cI, n_t, .inl R.2))] none := by
  refine kM_of cX6_add 2 none RX6 (by decide) rfl rfl (Nat.le_of_ble_eq_true rfl) ?_
  intro p e s m below meth c A ls X hA hP hD hS hl
  have hx := X.1.1
  have hb := X.1.2.1
  have hts := X.1.2.2.2.2
  have hown := X.1.2.2.2.1
  have hK := X.2.2.2.1
  have l_21 : (.fieldLink RX6 21 "CoverOrder$Row" "size" "I" : Cond).before _ s = true := hts _ (List.mem_of_getElem? (i := 1) (by decide +kernel))
  have i_X6 : ∀ w ∈ u_ws RX6 TX6 2, w ∈ wsX6_add := k_in _ [12, 13] (by decide +kernel)
  have hl : lv_has ls 2 [(0, .ref a_t), (1, .int p1)] := hl
  rw [mX6_add] at hm
  refine lv_aload_n hx hb dX6_add_0 rfl (lv_at hl 0 rfl) ?_
  refine lv_aload_n hx hb dX6_add_1 rfl (lv_at hl 0 rfl) ?_
  refine va_get (D := G) (ci := 3) (v := .int k_t_size) (C := RX6) (T := TX6) (N := 2) hx hb hts i_X6 hown hK hP 0 rfl rfl 1 (by decide) l_21 (fun _ h9 => h9) rfl dX6_add_2 ?_
  refine lv_iload_n hx hb dX6_add_5 rfl (lv_at hl 1 rfl) ?_
  obtain ⟨r6, hc6, hm⟩ := kbind hm
  refine kcV (ws1 := [(a_t, .inr (3, [.ref a_t_items, .int r6.1])), (a_t_items, .inl (cI, n_t, .inl r6.2))]) (st1 := []) X hA (c_X6_putIn l G cI cZ cE a_t a_t_items n_t k_t_size f_t_items k_t_size p1 r6 hc6) (cwV 2 hts gX6_add_X6_putIn rfl rfl rfl hd_X6_putIn ⟨Nat.le_of_ble_eq_true rfl, Nat.le_of_ble_eq_true rfl⟩) 0 3 rfl rfl hl.1 dX6_add_6 hP hD hS [0, 1] rfl rfl rfl rfl rfl [] rfl (Nat.le_of_ble_eq_true rfl) rfl ⟨Nat.zero_le _, Nat.zero_le _⟩ (fun H locs hP hD hS => ?_)
  have hm := Option.some.inj hm
  subst hm
  exact k_vret X rfl dX6_add_9 hP hD hS
theorem hd_X6_add : yX6_add.cls = RX6 ∧ yX6_add.cls ≠ "java/lang/invoke/MethodHandle" ∧ yX6_add.cls ≠ "java/lang/invoke/VarHandle" ∧ (parseMethodDescriptor yX6_add.desc).map (fun d => d.parameters.length) = some 1 := by decide +kernel
/-! CoverOrder.Row takeLast -/
set_option maxRecDepth 100000 in
set_option maxHeartbeats 4000000 in
theorem c_X6_takeLast (l : Launch) (G : va_G) (cI cZ cE : ClassId) (a_t a_t_items : Nat) (n_t : Nat) (k_t_size : Int32) (f_t_items : Nat → Int32) (R : Int32 × Int32 × (Nat → Int32)) (hm : mX6_takeLast n_t k_t_size f_t_items = some R) : kM l yX6_takeLast wsX6_takeLast { frames := 1, cells := 0, slots := 0, locals := 23 } G cI cZ cE [.ref a_t] [(a_t, .inr (3, [.ref a_t_items, .int k_t_size])), (a_t_items, .inl (cI, n_t, .inl f_t_items))] [(a_t, .inr (3, [.ref a_t_items, .int R.2.1])), (a_t_items, .inl (cI, n_t, .inl R.2.2))] (some (.int R.1)) := by
  refine kM_of cX6_takeLast 1 (some .int) RX6 (by decide) rfl rfl (Nat.le_of_ble_eq_true rfl) ?_
  intro p e s m below meth c A ls X hA hP hD hS hl
  have hx := X.1.1
  have hb := X.1.2.1
  have hts := X.1.2.2.2.2
  have hown := X.1.2.2.2.1
  have hK := X.2.2.2.1
  have l_21 : (.fieldLink RX6 21 "CoverOrder$Row" "size" "I" : Cond).before _ s = true := hts _ (List.mem_of_getElem? (i := 1) (by decide +kernel))
  have i_X6 : ∀ w ∈ u_ws RX6 TX6 2, w ∈ wsX6_takeLast := k_in _ [8, 9] (by decide +kernel)
  have hl : lv_has ls 1 [(0, .ref a_t)] := hl
  rw [mX6_takeLast] at hm
  refine lv_aload_n hx hb dX6_takeLast_0 rfl (lv_at hl 0 rfl) ?_
  refine lv_aload_n hx hb dX6_takeLast_1 rfl (lv_at hl 0 rfl) ?_
  refine va_get (D := G) (ci := 3) (v := .int k_t_size) (C := RX6) (T := TX6) (N := 2) hx hb hts i_X6 hown hK hP 0 rfl rfl 1 (by decide) l_21 (fun _ h9 => h9) rfl dX6_takeLast_2 ?_
  refine lv_iconst (v := 1) hx hb dX6_takeLast_5 (by decide) ?_
  refine lv_isub hx hb dX6_takeLast_6 ?_
  obtain ⟨r7, hc7, hm⟩ := kbind hm
  refine kcV (ws1 := [(a_t, .inr (3, [.ref a_t_items, .int r7.2.1])), (a_t_items, .inl (cI, n_t, .inl r7.2.2))]) (st1 := [.int r7.1]) X hA (c_X6_takeOut l G cI cZ cE a_t a_t_items n_t k_t_size f_t_items (k_t_size - 1) r7 hc7) (cwV 1 hts gX6_takeLast_X6_takeOut rfl rfl rfl hd_X6_takeOut ⟨Nat.le_of_ble_eq_true rfl, Nat.le_of_ble_eq_true rfl⟩) 0 3 rfl rfl hl.1 dX6_takeLast_7 hP hD hS [0, 1] rfl rfl rfl rfl rfl [] rfl (Nat.le_of_ble_eq_true rfl) rfl ⟨Nat.zero_le _, Nat.zero_le _⟩ (fun H locs hP hD hS => ?_)
  have hm := Option.some.inj hm
  subst hm
  exact k_iret (v := r7.1) X rfl dX6_takeLast_10 hP hD hS
theorem hd_X6_takeLast : yX6_takeLast.cls = RX6 ∧ yX6_takeLast.cls ≠ "java/lang/invoke/MethodHandle" ∧ yX6_takeLast.cls ≠ "java/lang/invoke/VarHandle" ∧ (parseMethodDescriptor yX6_takeLast.desc).map (fun d => d.parameters.length) = some 0 := by decide +kernel
/-! CoverOrder.Grid line -/
set_option maxRecDepth 100000 in
set_option maxHeartbeats 4000000 in
theorem c_X5_line (l : Launch) (G : va_G) (cI cZ cE : ClassId) (p0 : Int64) (p2 : Int32) (R : Int32) (hm : mX5_line p0 p2 = R) : kM l yX5_line wsX5_line { frames := 0, cells := 0, slots := 0, locals := 0 } G cI cZ cE [.long p0, .int p2] [] [] (some (.int R)) := by
  refine kM_of cX5_line 3 (some .int) RX5 (by decide) rfl rfl (Nat.le_of_ble_eq_true rfl) ?_
  intro p e s m below meth c A ls X hA hP hD hS hl
  have hx := X.1.1
  have hb := X.1.2.1
  have hts := X.1.2.2.2.2
  have hown := X.1.2.2.2.1
  have hK := X.2.2.2.1
  have hl : lv_has ls 3 [(0, .long p0), (2, .int p2)] := hl
  rw [mX5_line] at hm
  refine lv_lload_n hx hb dX5_line_0 rfl (lv_at hl 0 rfl) ?_
  refine lv_bipush (v := 8) hx hb dX5_line_1 (by decide) ?_
  refine lv_iload_n hx hb dX5_line_3 rfl (lv_at hl 1 rfl) ?_
  refine lv_imul hx hb dX5_line_4 ?_
  refine lv_lushr (v := ((p0 : Int64).toUInt64 >>> (((8 * p2) : Int32).toInt64.toUInt64 &&& Int64.toUInt64 63)).toInt64) hx hb dX5_line_5 rfl ?_
  refine lv_l2i (v := (((p0 : Int64).toUInt64 >>> (((8 * p2) : Int32).toInt64.toUInt64 &&& Int64.toUInt64 63)).toInt64 : Int64).toInt32) hx hb dX5_line_6 rfl ?_
  refine lv_sipush (v := 255) hx hb dX5_line_7 (by decide) ?_
  refine lv_iand hx hb dX5_line_10 ?_
  subst hm
  exact k_iret (v := ((((p0 : Int64).toUInt64 >>> (((8 * p2) : Int32).toInt64.toUInt64 &&& Int64.toUInt64 63)).toInt64 : Int64).toInt32) &&& 255) X rfl dX5_line_11 hP hD hS
theorem hd_X5_line : yX5_line.cls ≠ "java/lang/invoke/MethodHandle" ∧ yX5_line.cls ≠ "java/lang/invoke/VarHandle" ∧ (parseMethodDescriptor yX5_line.desc).map (fun d => d.parameters.length) = some 2 := by decide +kernel
/-! CoverOrder.Grid only -/
set_option maxRecDepth 100000 in
set_option maxHeartbeats 4000000 in
theorem c_X5_only (l : Launch) (G : va_G) (cI cZ cE : ClassId) (p0 : Int32) (R : Int32) (hm : mX5_only p0 = R) : kM l yX5_only wsX5_only { frames := 0, cells := 0, slots := 0, locals := 0 } G cI cZ cE [.int p0] [] [] (some (.int R)) := by
  refine kM_of cX5_only 1 (some .int) RX5 (by decide) rfl rfl (Nat.le_of_ble_eq_true rfl) ?_
  intro p e s m below meth c A ls X hA hP hD hS hl
  have hx := X.1.1
  have hb := X.1.2.1
  have hts := X.1.2.2.2.2
  have hown := X.1.2.2.2.1
  have hK := X.2.2.2.1
  have hl : lv_has ls 1 [(0, .int p0)] := hl
  rw [mX5_only] at hm
  refine lv_iconst (v := 1) hx hb dX5_only_0 (by decide) ?_
  refine lv_iload_n hx hb dX5_only_1 rfl (lv_at hl 0 rfl) ?_
  refine lv_ishl hx hb dX5_only_2 ?_
  subst hm
  exact k_iret (v := 1 <<< (p0 &&& 31)) X rfl dX5_only_3 hP hD hS
theorem hd_X5_only : yX5_only.cls ≠ "java/lang/invoke/MethodHandle" ∧ yX5_only.cls ≠ "java/lang/invoke/VarHandle" ∧ (parseMethodDescriptor yX5_only.desc).map (fun d => d.parameters.length) = some 1 := by decide +kernel
/-! CoverOrder.Grid withLine -/
set_option maxRecDepth 100000 in
set_option maxHeartbeats 4000000 in
theorem c_X5_withLine (l : Launch) (G : va_G) (cI cZ cE : ClassId) (p0 : Int64) (p2 : Int32) (p3 : Int32) (R : Int64) (hm : mX5_withLine p0 p2 p3 = R) : kM l yX5_withLine wsX5_withLine { frames := 0, cells := 0, slots := 0, locals := 0 } G cI cZ cE [.long p0, .int p2, .int p3] [] [] (some (.long R)) := by
  refine kM_of cX5_withLine 5 (some .long) RX5 (by decide) rfl rfl (Nat.le_of_ble_eq_true rfl) ?_
  intro p e s m below meth c A ls X hA hP hD hS hl
  have hx := X.1.1
  have hb := X.1.2.1
  have hts := X.1.2.2.2.2
  have hown := X.1.2.2.2.1
  have hK := X.2.2.2.1
  have k_15 : (.constantLong RX5 15 (255) : Cond).before _ s = true := hts _ (List.mem_of_getElem? (i := 1) (by decide +kernel))
  have k_17 : (.constantLong RX5 17 (-1) : Cond).before _ s = true := hts _ (List.mem_of_getElem? (i := 2) (by decide +kernel))
  have hl : lv_has ls 5 [(0, .long p0), (2, .int p2), (3, .int p3)] := hl
  rw [mX5_withLine] at hm
  refine lv_bipush (v := 8) hx hb dX5_withLine_0 (by decide) ?_
  refine lv_iload_n hx hb dX5_withLine_2 rfl (lv_at hl 1 rfl) ?_
  refine lv_imul hx hb dX5_withLine_3 ?_
  refine lv_istore (lv' := [(4, .int (8 * p2)), (0, .long p0), (2, .int p2), (3, .int p3)]) hx hb dX5_withLine_4 hl (by decide) rfl (fun ls hl => ?_)
  refine lv_lload_n hx hb dX5_withLine_6 rfl (lv_at hl 1 rfl) ?_
  refine lv_ldc2 (v := 255) hx hb hown k_15 dX5_withLine_7 ?_
  refine lv_iload hx hb dX5_withLine_10 (lv_at hl 0 rfl) ?_
  refine lv_lshl (v := 255 <<< (((8 * p2) : Int32).toInt64 &&& 63)) hx hb dX5_withLine_12 rfl ?_
  refine lv_ldc2 (v := (-1)) hx hb hown k_17 dX5_withLine_13 ?_
  refine lv_lxor hx hb dX5_withLine_16 ?_
  refine lv_land hx hb dX5_withLine_17 ?_
  refine lv_iload_n hx hb dX5_withLine_18 rfl (lv_at hl 3 rfl) ?_
  refine lv_i2l (v := (p3 : Int32).toInt64) hx hb dX5_withLine_19 rfl ?_
  refine lv_iload hx hb dX5_withLine_20 (lv_at hl 0 rfl) ?_
  refine lv_lshl (v := ((p3 : Int32).toInt64) <<< (((8 * p2) : Int32).toInt64 &&& 63)) hx hb dX5_withLine_22 rfl ?_
  refine lv_lor hx hb dX5_withLine_23 ?_
  subst hm
  exact k_lret X rfl dX5_withLine_24 hP hD hS
theorem hd_X5_withLine : yX5_withLine.cls ≠ "java/lang/invoke/MethodHandle" ∧ yX5_withLine.cls ≠ "java/lang/invoke/VarHandle" ∧ (parseMethodDescriptor yX5_withLine.desc).map (fun d => d.parameters.length) = some 3 := by decide +kernel
/-! java/lang/Integer bitCount -/
set_option maxRecDepth 100000 in
set_option maxHeartbeats 4000000 in
theorem c_J6_bitCount_0f7a4 (l : Launch) (G : va_G) (cI cZ cE : ClassId) (p0 : Int32) (R : Int32) (hm : mJ6_bitCount_0f7a4 p0 = R) : kM l yJ6_bitCount_0f7a4 wsJ6_bitCount_0f7a4 { frames := 0, cells := 0, slots := 0, locals := 0 } G cI cZ cE [.int p0] [] [] (some (.int R)) := by
  refine kM_of cJ6_bitCount_0f7a4 1 (some .int) RJ6 (by decide) rfl rfl (Nat.le_of_ble_eq_true rfl) ?_
  intro p e s m below meth c A ls X hA hP hD hS hl
  have hx := X.1.1
  have hb := X.1.2.1
  have hts := X.1.2.2.2.2
  have hown := X.1.2.2.2.1
  have hK := X.2.2.2.1
  have k_265 : (.constant RJ6 265 (1431655765) : Cond).before _ s = true := hts _ (List.mem_of_getElem? (i := 1) (by decide +kernel))
  have k_266 : (.constant RJ6 266 (858993459) : Cond).before _ s = true := hts _ (List.mem_of_getElem? (i := 2) (by decide +kernel))
  have k_267 : (.constant RJ6 267 (252645135) : Cond).before _ s = true := hts _ (List.mem_of_getElem? (i := 3) (by decide +kernel))
  have hl : lv_has ls 1 [(0, .int p0)] := hl
  rw [mJ6_bitCount_0f7a4] at hm
  refine lv_iload_n hx hb dJ6_bitCount_0f7a4_0 rfl (lv_at hl 0 rfl) ?_
  refine lv_iload_n hx hb dJ6_bitCount_0f7a4_1 rfl (lv_at hl 0 rfl) ?_
  refine lv_iconst (v := 1) hx hb dJ6_bitCount_0f7a4_2 (by decide) ?_
  refine lv_iushr (v := ((p0 : Int32).toUInt32 >>> (Int32.toUInt32 1 &&& Int32.toUInt32 31)).toInt32) hx hb dJ6_bitCount_0f7a4_3 rfl ?_
  refine lv_ldcw (v := 1431655765) hx hb hown k_265 dJ6_bitCount_0f7a4_4 ?_
  refine lv_iand hx hb dJ6_bitCount_0f7a4_7 ?_
  refine lv_isub hx hb dJ6_bitCount_0f7a4_8 ?_
  refine lv_istore_n (lv' := [(0, .int (p0 - ((((p0 : Int32).toUInt32 >>> (Int32.toUInt32 1 &&& Int32.toUInt32 31)).toInt32) &&& 1431655765)))]) hx hb dJ6_bitCount_0f7a4_9 rfl hl (by decide) rfl (fun ls hl => ?_)
  refine lv_iload_n hx hb dJ6_bitCount_0f7a4_10 rfl (lv_at hl 0 rfl) ?_
  refine lv_ldcw (v := 858993459) hx hb hown k_266 dJ6_bitCount_0f7a4_11 ?_
  refine lv_iand hx hb dJ6_bitCount_0f7a4_14 ?_
  refine lv_iload_n hx hb dJ6_bitCount_0f7a4_15 rfl (lv_at hl 0 rfl) ?_
  refine lv_iconst (v := 2) hx hb dJ6_bitCount_0f7a4_16 (by decide) ?_
  refine lv_iushr (v := (((p0 - ((((p0 : Int32).toUInt32 >>> (Int32.toUInt32 1 &&& Int32.toUInt32 31)).toInt32) &&& 1431655765)) : Int32).toUInt32 >>> (Int32.toUInt32 2 &&& Int32.toUInt32 31)).toInt32) hx hb dJ6_bitCount_0f7a4_17 rfl ?_
  refine lv_ldcw (v := 858993459) hx hb hown k_266 dJ6_bitCount_0f7a4_18 ?_
  refine lv_iand hx hb dJ6_bitCount_0f7a4_21 ?_
  refine lv_iadd hx hb dJ6_bitCount_0f7a4_22 ?_
  refine lv_istore_n (lv' := [(0, .int (((p0 - ((((p0 : Int32).toUInt32 >>> (Int32.toUInt32 1 &&& Int32.toUInt32 31)).toInt32) &&& 1431655765)) &&& 858993459) + (((((p0 - ((((p0 : Int32).toUInt32 >>> (Int32.toUInt32 1 &&& Int32.toUInt32 31)).toInt32) &&& 1431655765)) : Int32).toUInt32 >>> (Int32.toUInt32 2 &&& Int32.toUInt32 31)).toInt32) &&& 858993459)))]) hx hb dJ6_bitCount_0f7a4_23 rfl hl (by decide) rfl (fun ls hl => ?_)
  refine lv_iload_n hx hb dJ6_bitCount_0f7a4_24 rfl (lv_at hl 0 rfl) ?_
  refine lv_iload_n hx hb dJ6_bitCount_0f7a4_25 rfl (lv_at hl 0 rfl) ?_
  refine lv_iconst (v := 4) hx hb dJ6_bitCount_0f7a4_26 (by decide) ?_
  refine lv_iushr (v := (((((p0 - ((((p0 : Int32).toUInt32 >>> (Int32.toUInt32 1 &&& Int32.toUInt32 31)).toInt32) &&& 1431655765)) &&& 858993459) + (((((p0 - ((((p0 : Int32).toUInt32 >>> (Int32.toUInt32 1 &&& Int32.toUInt32 31)).toInt32) &&& 1431655765)) : Int32).toUInt32 >>> (Int32.toUInt32 2 &&& Int32.toUInt32 31)).toInt32) &&& 858993459)) : Int32).toUInt32 >>> (Int32.toUInt32 4 &&& Int32.toUInt32 31)).toInt32) hx hb dJ6_bitCount_0f7a4_27 rfl ?_
  refine lv_iadd hx hb dJ6_bitCount_0f7a4_28 ?_
  refine lv_ldcw (v := 252645135) hx hb hown k_267 dJ6_bitCount_0f7a4_29 ?_
  refine lv_iand hx hb dJ6_bitCount_0f7a4_32 ?_
  refine lv_istore_n (lv' := [(0, .int (((((p0 - ((((p0 : Int32).toUInt32 >>> (Int32.toUInt32 1 &&& Int32.toUInt32 31)).toInt32) &&& 1431655765)) &&& 858993459) + (((((p0 - ((((p0 : Int32).toUInt32 >>> (Int32.toUInt32 1 &&& Int32.toUInt32 31)).toInt32) &&& 1431655765)) : Int32).toUInt32 >>> (Int32.toUInt32 2 &&& Int32.toUInt32 31)).toInt32) &&& 858993459)) + ((((((p0 - ((((p0 : Int32).toUInt32 >>> (Int32.toUInt32 1 &&& Int32.toUInt32 31)).toInt32) &&& 1431655765)) &&& 858993459) + (((((p0 - ((((p0 : Int32).toUInt32 >>> (Int32.toUInt32 1 &&& Int32.toUInt32 31)).toInt32) &&& 1431655765)) : Int32).toUInt32 >>> (Int32.toUInt32 2 &&& Int32.toUInt32 31)).toInt32) &&& 858993459)) : Int32).toUInt32 >>> (Int32.toUInt32 4 &&& Int32.toUInt32 31)).toInt32)) &&& 252645135))]) hx hb dJ6_bitCount_0f7a4_33 rfl hl (by decide) rfl (fun ls hl => ?_)
  refine lv_iload_n hx hb dJ6_bitCount_0f7a4_34 rfl (lv_at hl 0 rfl) ?_
  refine lv_iload_n hx hb dJ6_bitCount_0f7a4_35 rfl (lv_at hl 0 rfl) ?_
  refine lv_bipush (v := 8) hx hb dJ6_bitCount_0f7a4_36 (by decide) ?_
  refine lv_iushr (v := (((((((p0 - ((((p0 : Int32).toUInt32 >>> (Int32.toUInt32 1 &&& Int32.toUInt32 31)).toInt32) &&& 1431655765)) &&& 858993459) + (((((p0 - ((((p0 : Int32).toUInt32 >>> (Int32.toUInt32 1 &&& Int32.toUInt32 31)).toInt32) &&& 1431655765)) : Int32).toUInt32 >>> (Int32.toUInt32 2 &&& Int32.toUInt32 31)).toInt32) &&& 858993459)) + ((((((p0 - ((((p0 : Int32).toUInt32 >>> (Int32.toUInt32 1 &&& Int32.toUInt32 31)).toInt32) &&& 1431655765)) &&& 858993459) + (((((p0 - ((((p0 : Int32).toUInt32 >>> (Int32.toUInt32 1 &&& Int32.toUInt32 31)).toInt32) &&& 1431655765)) : Int32).toUInt32 >>> (Int32.toUInt32 2 &&& Int32.toUInt32 31)).toInt32) &&& 858993459)) : Int32).toUInt32 >>> (Int32.toUInt32 4 &&& Int32.toUInt32 31)).toInt32)) &&& 252645135) : Int32).toUInt32 >>> (Int32.toUInt32 8 &&& Int32.toUInt32 31)).toInt32) hx hb dJ6_bitCount_0f7a4_38 rfl ?_
  refine lv_iadd hx hb dJ6_bitCount_0f7a4_39 ?_
  refine lv_istore_n (lv' := [(0, .int ((((((p0 - ((((p0 : Int32).toUInt32 >>> (Int32.toUInt32 1 &&& Int32.toUInt32 31)).toInt32) &&& 1431655765)) &&& 858993459) + (((((p0 - ((((p0 : Int32).toUInt32 >>> (Int32.toUInt32 1 &&& Int32.toUInt32 31)).toInt32) &&& 1431655765)) : Int32).toUInt32 >>> (Int32.toUInt32 2 &&& Int32.toUInt32 31)).toInt32) &&& 858993459)) + ((((((p0 - ((((p0 : Int32).toUInt32 >>> (Int32.toUInt32 1 &&& Int32.toUInt32 31)).toInt32) &&& 1431655765)) &&& 858993459) + (((((p0 - ((((p0 : Int32).toUInt32 >>> (Int32.toUInt32 1 &&& Int32.toUInt32 31)).toInt32) &&& 1431655765)) : Int32).toUInt32 >>> (Int32.toUInt32 2 &&& Int32.toUInt32 31)).toInt32) &&& 858993459)) : Int32).toUInt32 >>> (Int32.toUInt32 4 &&& Int32.toUInt32 31)).toInt32)) &&& 252645135) + ((((((((p0 - ((((p0 : Int32).toUInt32 >>> (Int32.toUInt32 1 &&& Int32.toUInt32 31)).toInt32) &&& 1431655765)) &&& 858993459) + (((((p0 - ((((p0 : Int32).toUInt32 >>> (Int32.toUInt32 1 &&& Int32.toUInt32 31)).toInt32) &&& 1431655765)) : Int32).toUInt32 >>> (Int32.toUInt32 2 &&& Int32.toUInt32 31)).toInt32) &&& 858993459)) + ((((((p0 - ((((p0 : Int32).toUInt32 >>> (Int32.toUInt32 1 &&& Int32.toUInt32 31)).toInt32) &&& 1431655765)) &&& 858993459) + (((((p0 - ((((p0 : Int32).toUInt32 >>> (Int32.toUInt32 1 &&& Int32.toUInt32 31)).toInt32) &&& 1431655765)) : Int32).toUInt32 >>> (Int32.toUInt32 2 &&& Int32.toUInt32 31)).toInt32) &&& 858993459)) : Int32).toUInt32 >>> (Int32.toUInt32 4 &&& Int32.toUInt32 31)).toInt32)) &&& 252645135) : Int32).toUInt32 >>> (Int32.toUInt32 8 &&& Int32.toUInt32 31)).toInt32)))]) hx hb dJ6_bitCount_0f7a4_40 rfl hl (by decide) rfl (fun ls hl => ?_)
  refine lv_iload_n hx hb dJ6_bitCount_0f7a4_41 rfl (lv_at hl 0 rfl) ?_
  refine lv_iload_n hx hb dJ6_bitCount_0f7a4_42 rfl (lv_at hl 0 rfl) ?_
  refine lv_bipush (v := 16) hx hb dJ6_bitCount_0f7a4_43 (by decide) ?_
  refine lv_iushr (v := ((((((((p0 - ((((p0 : Int32).toUInt32 >>> (Int32.toUInt32 1 &&& Int32.toUInt32 31)).toInt32) &&& 1431655765)) &&& 858993459) + (((((p0 - ((((p0 : Int32).toUInt32 >>> (Int32.toUInt32 1 &&& Int32.toUInt32 31)).toInt32) &&& 1431655765)) : Int32).toUInt32 >>> (Int32.toUInt32 2 &&& Int32.toUInt32 31)).toInt32) &&& 858993459)) + ((((((p0 - ((((p0 : Int32).toUInt32 >>> (Int32.toUInt32 1 &&& Int32.toUInt32 31)).toInt32) &&& 1431655765)) &&& 858993459) + (((((p0 - ((((p0 : Int32).toUInt32 >>> (Int32.toUInt32 1 &&& Int32.toUInt32 31)).toInt32) &&& 1431655765)) : Int32).toUInt32 >>> (Int32.toUInt32 2 &&& Int32.toUInt32 31)).toInt32) &&& 858993459)) : Int32).toUInt32 >>> (Int32.toUInt32 4 &&& Int32.toUInt32 31)).toInt32)) &&& 252645135) + ((((((((p0 - ((((p0 : Int32).toUInt32 >>> (Int32.toUInt32 1 &&& Int32.toUInt32 31)).toInt32) &&& 1431655765)) &&& 858993459) + (((((p0 - ((((p0 : Int32).toUInt32 >>> (Int32.toUInt32 1 &&& Int32.toUInt32 31)).toInt32) &&& 1431655765)) : Int32).toUInt32 >>> (Int32.toUInt32 2 &&& Int32.toUInt32 31)).toInt32) &&& 858993459)) + ((((((p0 - ((((p0 : Int32).toUInt32 >>> (Int32.toUInt32 1 &&& Int32.toUInt32 31)).toInt32) &&& 1431655765)) &&& 858993459) + (((((p0 - ((((p0 : Int32).toUInt32 >>> (Int32.toUInt32 1 &&& Int32.toUInt32 31)).toInt32) &&& 1431655765)) : Int32).toUInt32 >>> (Int32.toUInt32 2 &&& Int32.toUInt32 31)).toInt32) &&& 858993459)) : Int32).toUInt32 >>> (Int32.toUInt32 4 &&& Int32.toUInt32 31)).toInt32)) &&& 252645135) : Int32).toUInt32 >>> (Int32.toUInt32 8 &&& Int32.toUInt32 31)).toInt32)) : Int32).toUInt32 >>> (Int32.toUInt32 16 &&& Int32.toUInt32 31)).toInt32) hx hb dJ6_bitCount_0f7a4_45 rfl ?_
  refine lv_iadd hx hb dJ6_bitCount_0f7a4_46 ?_
  refine lv_istore_n (lv' := [(0, .int (((((((p0 - ((((p0 : Int32).toUInt32 >>> (Int32.toUInt32 1 &&& Int32.toUInt32 31)).toInt32) &&& 1431655765)) &&& 858993459) + (((((p0 - ((((p0 : Int32).toUInt32 >>> (Int32.toUInt32 1 &&& Int32.toUInt32 31)).toInt32) &&& 1431655765)) : Int32).toUInt32 >>> (Int32.toUInt32 2 &&& Int32.toUInt32 31)).toInt32) &&& 858993459)) + ((((((p0 - ((((p0 : Int32).toUInt32 >>> (Int32.toUInt32 1 &&& Int32.toUInt32 31)).toInt32) &&& 1431655765)) &&& 858993459) + (((((p0 - ((((p0 : Int32).toUInt32 >>> (Int32.toUInt32 1 &&& Int32.toUInt32 31)).toInt32) &&& 1431655765)) : Int32).toUInt32 >>> (Int32.toUInt32 2 &&& Int32.toUInt32 31)).toInt32) &&& 858993459)) : Int32).toUInt32 >>> (Int32.toUInt32 4 &&& Int32.toUInt32 31)).toInt32)) &&& 252645135) + ((((((((p0 - ((((p0 : Int32).toUInt32 >>> (Int32.toUInt32 1 &&& Int32.toUInt32 31)).toInt32) &&& 1431655765)) &&& 858993459) + (((((p0 - ((((p0 : Int32).toUInt32 >>> (Int32.toUInt32 1 &&& Int32.toUInt32 31)).toInt32) &&& 1431655765)) : Int32).toUInt32 >>> (Int32.toUInt32 2 &&& Int32.toUInt32 31)).toInt32) &&& 858993459)) + ((((((p0 - ((((p0 : Int32).toUInt32 >>> (Int32.toUInt32 1 &&& Int32.toUInt32 31)).toInt32) &&& 1431655765)) &&& 858993459) + (((((p0 - ((((p0 : Int32).toUInt32 >>> (Int32.toUInt32 1 &&& Int32.toUInt32 31)).toInt32) &&& 1431655765)) : Int32).toUInt32 >>> (Int32.toUInt32 2 &&& Int32.toUInt32 31)).toInt32) &&& 858993459)) : Int32).toUInt32 >>> (Int32.toUInt32 4 &&& Int32.toUInt32 31)).toInt32)) &&& 252645135) : Int32).toUInt32 >>> (Int32.toUInt32 8 &&& Int32.toUInt32 31)).toInt32)) + (((((((((p0 - ((((p0 : Int32).toUInt32 >>> (Int32.toUInt32 1 &&& Int32.toUInt32 31)).toInt32) &&& 1431655765)) &&& 858993459) + (((((p0 - ((((p0 : Int32).toUInt32 >>> (Int32.toUInt32 1 &&& Int32.toUInt32 31)).toInt32) &&& 1431655765)) : Int32).toUInt32 >>> (Int32.toUInt32 2 &&& Int32.toUInt32 31)).toInt32) &&& 858993459)) + ((((((p0 - ((((p0 : Int32).toUInt32 >>> (Int32.toUInt32 1 &&& Int32.toUInt32 31)).toInt32) &&& 1431655765)) &&& 858993459) + (((((p0 - ((((p0 : Int32).toUInt32 >>> (Int32.toUInt32 1 &&& Int32.toUInt32 31)).toInt32) &&& 1431655765)) : Int32).toUInt32 >>> (Int32.toUInt32 2 &&& Int32.toUInt32 31)).toInt32) &&& 858993459)) : Int32).toUInt32 >>> (Int32.toUInt32 4 &&& Int32.toUInt32 31)).toInt32)) &&& 252645135) + ((((((((p0 - ((((p0 : Int32).toUInt32 >>> (Int32.toUInt32 1 &&& Int32.toUInt32 31)).toInt32) &&& 1431655765)) &&& 858993459) + (((((p0 - ((((p0 : Int32).toUInt32 >>> (Int32.toUInt32 1 &&& Int32.toUInt32 31)).toInt32) &&& 1431655765)) : Int32).toUInt32 >>> (Int32.toUInt32 2 &&& Int32.toUInt32 31)).toInt32) &&& 858993459)) + ((((((p0 - ((((p0 : Int32).toUInt32 >>> (Int32.toUInt32 1 &&& Int32.toUInt32 31)).toInt32) &&& 1431655765)) &&& 858993459) + (((((p0 - ((((p0 : Int32).toUInt32 >>> (Int32.toUInt32 1 &&& Int32.toUInt32 31)).toInt32) &&& 1431655765)) : Int32).toUInt32 >>> (Int32.toUInt32 2 &&& Int32.toUInt32 31)).toInt32) &&& 858993459)) : Int32).toUInt32 >>> (Int32.toUInt32 4 &&& Int32.toUInt32 31)).toInt32)) &&& 252645135) : Int32).toUInt32 >>> (Int32.toUInt32 8 &&& Int32.toUInt32 31)).toInt32)) : Int32).toUInt32 >>> (Int32.toUInt32 16 &&& Int32.toUInt32 31)).toInt32)))]) hx hb dJ6_bitCount_0f7a4_47 rfl hl (by decide) rfl (fun ls hl => ?_)
  refine lv_iload_n hx hb dJ6_bitCount_0f7a4_48 rfl (lv_at hl 0 rfl) ?_
  refine lv_bipush (v := 63) hx hb dJ6_bitCount_0f7a4_49 (by decide) ?_
  refine lv_iand hx hb dJ6_bitCount_0f7a4_51 ?_
  subst hm
  exact k_iret (v := (((((((p0 - ((((p0 : Int32).toUInt32 >>> (Int32.toUInt32 1 &&& Int32.toUInt32 31)).toInt32) &&& 1431655765)) &&& 858993459) + (((((p0 - ((((p0 : Int32).toUInt32 >>> (Int32.toUInt32 1 &&& Int32.toUInt32 31)).toInt32) &&& 1431655765)) : Int32).toUInt32 >>> (Int32.toUInt32 2 &&& Int32.toUInt32 31)).toInt32) &&& 858993459)) + ((((((p0 - ((((p0 : Int32).toUInt32 >>> (Int32.toUInt32 1 &&& Int32.toUInt32 31)).toInt32) &&& 1431655765)) &&& 858993459) + (((((p0 - ((((p0 : Int32).toUInt32 >>> (Int32.toUInt32 1 &&& Int32.toUInt32 31)).toInt32) &&& 1431655765)) : Int32).toUInt32 >>> (Int32.toUInt32 2 &&& Int32.toUInt32 31)).toInt32) &&& 858993459)) : Int32).toUInt32 >>> (Int32.toUInt32 4 &&& Int32.toUInt32 31)).toInt32)) &&& 252645135) + ((((((((p0 - ((((p0 : Int32).toUInt32 >>> (Int32.toUInt32 1 &&& Int32.toUInt32 31)).toInt32) &&& 1431655765)) &&& 858993459) + (((((p0 - ((((p0 : Int32).toUInt32 >>> (Int32.toUInt32 1 &&& Int32.toUInt32 31)).toInt32) &&& 1431655765)) : Int32).toUInt32 >>> (Int32.toUInt32 2 &&& Int32.toUInt32 31)).toInt32) &&& 858993459)) + ((((((p0 - ((((p0 : Int32).toUInt32 >>> (Int32.toUInt32 1 &&& Int32.toUInt32 31)).toInt32) &&& 1431655765)) &&& 858993459) + (((((p0 - ((((p0 : Int32).toUInt32 >>> (Int32.toUInt32 1 &&& Int32.toUInt32 31)).toInt32) &&& 1431655765)) : Int32).toUInt32 >>> (Int32.toUInt32 2 &&& Int32.toUInt32 31)).toInt32) &&& 858993459)) : Int32).toUInt32 >>> (Int32.toUInt32 4 &&& Int32.toUInt32 31)).toInt32)) &&& 252645135) : Int32).toUInt32 >>> (Int32.toUInt32 8 &&& Int32.toUInt32 31)).toInt32)) + (((((((((p0 - ((((p0 : Int32).toUInt32 >>> (Int32.toUInt32 1 &&& Int32.toUInt32 31)).toInt32) &&& 1431655765)) &&& 858993459) + (((((p0 - ((((p0 : Int32).toUInt32 >>> (Int32.toUInt32 1 &&& Int32.toUInt32 31)).toInt32) &&& 1431655765)) : Int32).toUInt32 >>> (Int32.toUInt32 2 &&& Int32.toUInt32 31)).toInt32) &&& 858993459)) + ((((((p0 - ((((p0 : Int32).toUInt32 >>> (Int32.toUInt32 1 &&& Int32.toUInt32 31)).toInt32) &&& 1431655765)) &&& 858993459) + (((((p0 - ((((p0 : Int32).toUInt32 >>> (Int32.toUInt32 1 &&& Int32.toUInt32 31)).toInt32) &&& 1431655765)) : Int32).toUInt32 >>> (Int32.toUInt32 2 &&& Int32.toUInt32 31)).toInt32) &&& 858993459)) : Int32).toUInt32 >>> (Int32.toUInt32 4 &&& Int32.toUInt32 31)).toInt32)) &&& 252645135) + ((((((((p0 - ((((p0 : Int32).toUInt32 >>> (Int32.toUInt32 1 &&& Int32.toUInt32 31)).toInt32) &&& 1431655765)) &&& 858993459) + (((((p0 - ((((p0 : Int32).toUInt32 >>> (Int32.toUInt32 1 &&& Int32.toUInt32 31)).toInt32) &&& 1431655765)) : Int32).toUInt32 >>> (Int32.toUInt32 2 &&& Int32.toUInt32 31)).toInt32) &&& 858993459)) + ((((((p0 - ((((p0 : Int32).toUInt32 >>> (Int32.toUInt32 1 &&& Int32.toUInt32 31)).toInt32) &&& 1431655765)) &&& 858993459) + (((((p0 - ((((p0 : Int32).toUInt32 >>> (Int32.toUInt32 1 &&& Int32.toUInt32 31)).toInt32) &&& 1431655765)) : Int32).toUInt32 >>> (Int32.toUInt32 2 &&& Int32.toUInt32 31)).toInt32) &&& 858993459)) : Int32).toUInt32 >>> (Int32.toUInt32 4 &&& Int32.toUInt32 31)).toInt32)) &&& 252645135) : Int32).toUInt32 >>> (Int32.toUInt32 8 &&& Int32.toUInt32 31)).toInt32)) : Int32).toUInt32 >>> (Int32.toUInt32 16 &&& Int32.toUInt32 31)).toInt32)) &&& 63) X rfl dJ6_bitCount_0f7a4_52 hP hD hS
theorem hd_J6_bitCount_0f7a4 : yJ6_bitCount_0f7a4.cls ≠ "java/lang/invoke/MethodHandle" ∧ yJ6_bitCount_0f7a4.cls ≠ "java/lang/invoke/VarHandle" ∧ (parseMethodDescriptor yJ6_bitCount_0f7a4.desc).map (fun d => d.parameters.length) = some 1 := by decide +kernel
/-! CoverOrder.Grid first -/
set_option maxRecDepth 100000 in
set_option maxHeartbeats 4000000 in
theorem c_X5_first (l : Launch) (G : va_G) (cI cZ cE : ClassId) (p0 : Int32) (R : Int32) (hm : mX5_first p0 = R) : kM l yX5_first wsX5_first { frames := 1, cells := 0, slots := 0, locals := 20 } G cI cZ cE [.int p0] [] [] (some (.int R)) := by
  refine kM_of cX5_first 1 (some .int) RX5 (by decide) rfl rfl (Nat.le_of_ble_eq_true rfl) ?_
  intro p e s m below meth c A ls X hA hP hD hS hl
  have hx := X.1.1
  have hb := X.1.2.1
  have hts := X.1.2.2.2.2
  have hown := X.1.2.2.2.1
  have hK := X.2.2.2.1
  have hl : lv_has ls 1 [(0, .int p0)] := hl
  rw [mX5_first] at hm
  refine lv_iload_n hx hb dX5_first_0 rfl (lv_at hl 0 rfl) ?_
  refine lv_iload_n hx hb dX5_first_1 rfl (lv_at hl 0 rfl) ?_
  refine lv_ineg hx hb dX5_first_2 ?_
  refine lv_iand hx hb dX5_first_3 ?_
  refine lv_iconst (v := 1) hx hb dX5_first_4 (by decide) ?_
  refine lv_isub hx hb dX5_first_5 ?_
  refine kcS0 (st1 := [.int (mJ6_bitCount_0f7a4 ((p0 &&& (-p0)) - 1))]) X hA (c_J6_bitCount_0f7a4 l G cI cZ cE ((p0 &&& (-p0)) - 1) _ rfl) (va_cwS 1 hts gX5_first_J6_bitCount_0f7a4 rfl rfl rfl hd_J6_bitCount_0f7a4 ⟨Nat.le_of_ble_eq_true rfl, Nat.le_of_ble_eq_true rfl⟩) hl.1 dX5_first_6 hP hD hS [] rfl rfl rfl [] rfl (Nat.le_of_ble_eq_true rfl) rfl ⟨Nat.zero_le _, Nat.zero_le _⟩ (fun H locs hP hD hS => ?_)
  subst hm
  exact k_iret (v := (mJ6_bitCount_0f7a4 ((p0 &&& (-p0)) - 1))) X rfl dX5_first_9 hP hD hS
theorem hd_X5_first : yX5_first.cls ≠ "java/lang/invoke/MethodHandle" ∧ yX5_first.cls ≠ "java/lang/invoke/VarHandle" ∧ (parseMethodDescriptor yX5_first.desc).map (fun d => d.parameters.length) = some 1 := by decide +kernel
/-! CoverOrder.Grid reached -/
set_option maxRecDepth 100000 in
set_option maxHeartbeats 4000000 in
theorem c_X5_reached (l : Launch) (G : va_G) (cI cZ cE : ClassId) (p0 : Int64) (p2 : Int32) (R : Int32) (hm : mX5_reached p0 p2 = some R) : kM l yX5_reached wsX5_reached { frames := 2, cells := 0, slots := 0, locals := 40 } G cI cZ cE [.long p0, .int p2] [] [] (some (.int R)) := by
  refine kM_of cX5_reached 8 (some .int) RX5 (by decide) rfl rfl (Nat.le_of_ble_eq_true rfl) ?_
  intro p e s m below meth c A ls X hA hP hD hS hl
  have hx := X.1.1
  have hb := X.1.2.1
  have hts := X.1.2.2.2.2
  have hown := X.1.2.2.2.1
  have hK := X.2.2.2.1
  have hl : lv_has ls 8 [(0, .long p0), (2, .int p2)] := hl
  rw [mX5_reached] at hm
  refine lv_iconst (v := 0) hx hb dX5_reached_0 (by decide) ?_
  refine kcS0 (st1 := [.int (mX5_only 0)]) X hA (c_X5_only l G cI cZ cE 0 _ rfl) (va_cwS 1 hts gX5_reached_X5_only rfl rfl rfl hd_X5_only ⟨Nat.le_of_ble_eq_true rfl, Nat.le_of_ble_eq_true rfl⟩) hl.1 dX5_reached_1 hP hD hS [] rfl rfl rfl [] rfl (Nat.le_of_ble_eq_true rfl) rfl ⟨Nat.zero_le _, Nat.zero_le _⟩ (fun H locs hP hD hS => ?_)
  refine lv_iload_n hx hb dX5_reached_4 rfl (lv_at hl 1 rfl) ?_
  refine lv_iconst (v := (-1)) hx hb dX5_reached_5 (by decide) ?_
  refine lv_ixor hx hb dX5_reached_6 ?_
  refine lv_iand hx hb dX5_reached_7 ?_
  refine lv_istore_n (lv' := [(3, .int ((mX5_only 0) &&& (p2 ^^^ (-1)))), (0, .long p0), (2, .int p2)]) hx hb dX5_reached_8 rfl hl (by decide) rfl (fun ls hl => ?_)
  refine lv_iload_n hx hb dX5_reached_9 rfl (lv_at hl 0 rfl) ?_
  refine lv_istore (lv' := [(4, .int ((mX5_only 0) &&& (p2 ^^^ (-1)))), (3, .int ((mX5_only 0) &&& (p2 ^^^ (-1)))), (0, .long p0), (2, .int p2)]) hx hb dX5_reached_10 hl (by decide) rfl (fun ls hl => ?_)
  refine lv_iconst (v := 0) hx hb dX5_reached_12 (by decide) ?_
  refine lv_istore (lv' := [(5, .int 0), (4, .int ((mX5_only 0) &&& (p2 ^^^ (-1)))), (3, .int ((mX5_only 0) &&& (p2 ^^^ (-1)))), (0, .long p0), (2, .int p2)]) hx hb dX5_reached_13 hl (by decide) rfl (fun ls hl => ?_)
  have h15 : ∀ (n15 : Nat), ∀ (v15_3 : Int32) (v15_4 : Int32) (v15_5 : Int32) (H : Heap) (locs : List Loc) (ls : Array Slot), va_P G vwCl [] H → va_D A [] → va_S A s.heap H locs → lv_has ls 8 [(0, .long p0), (2, .int p2), (3, .int v15_3), (4, .int v15_4), (5, .int v15_5)] → mX5_reached_L15 p0 p2 n15 v15_3 v15_4 v15_5 = some R → W p l e { frames := 2, cells := 0, slots := 0, locals := 40 } s m ([.long p0, .int p2] : List Value).toArray below meth c H locs 0 0 (kQ below G [] (some (.int R)) A ([.long p0, .int p2] : List Value).toArray s) (F0 m 15 ls []) := by
    intro n15
    induction n15 with
    | zero => intro v15_3 v15_4 v15_5 H locs ls hP hD hS hl hm; rw [mX5_reached_L15] at hm; cases hm
    | succ n15 ih15 =>
      intro v15_3 v15_4 v15_5 H locs ls hP hD hS hl hm
      rw [mX5_reached_L15] at hm
      refine lv_iload hx hb dX5_reached_15 (lv_at hl 4 rfl) ?_
      refine lv_bipush (v := 8) hx hb dX5_reached_17 (by decide) ?_
      refine lv_icmp_ge (tgt := 76) hx hb dX5_reached_19 (by decide) (fun c19 => ?_) (fun c19 => ?_)
      · rw [if_pos c19] at hm
        refine lv_iload_n hx hb dX5_reached_76 rfl (lv_at hl 2 rfl) ?_
        have hm := Option.some.inj hm
        subst hm
        exact k_iret (v := v15_3) X rfl dX5_reached_77 hP hD hS
      · rw [if_neg c19] at hm
        refine lv_iload hx hb dX5_reached_22 (lv_at hl 3 rfl) ?_
        refine lv_if_eq (tgt := 76) hx hb dX5_reached_24 (by decide) (fun c24 => ?_) (fun c24 => ?_)
        · rw [if_pos c24] at hm
          refine lv_iload_n hx hb dX5_reached_76 rfl (lv_at hl 2 rfl) ?_
          have hm := Option.some.inj hm
          subst hm
          exact k_iret (v := v15_3) X rfl dX5_reached_77 hP hD hS
        · rw [if_neg c24] at hm
          refine lv_iload hx hb dX5_reached_27 (lv_at hl 3 rfl) ?_
          refine kcS0 (st1 := [.int (mX5_first v15_4)]) X hA (c_X5_first l G cI cZ cE v15_4 _ rfl) (va_cwS 1 hts gX5_reached_X5_first rfl rfl rfl hd_X5_first ⟨Nat.le_of_ble_eq_true rfl, Nat.le_of_ble_eq_true rfl⟩) hl.1 dX5_reached_29 hP hD hS [] rfl rfl rfl [] rfl (Nat.le_of_ble_eq_true rfl) rfl ⟨Nat.zero_le _, Nat.zero_le _⟩ (fun H locs hP hD hS => ?_)
          refine lv_istore (lv' := [(6, .int (mX5_first v15_4)), (0, .long p0), (2, .int p2), (3, .int v15_3), (4, .int v15_4), (5, .int v15_5)]) hx hb dX5_reached_32 hl (by decide) rfl (fun ls hl => ?_)
          refine lv_lload_n hx hb dX5_reached_34 rfl (lv_at hl 1 rfl) ?_
          refine lv_iload hx hb dX5_reached_35 (lv_at hl 0 rfl) ?_
          refine kcS0 (st1 := [.int (mX5_line p0 (mX5_first v15_4))]) X hA (c_X5_line l G cI cZ cE p0 (mX5_first v15_4) _ rfl) (va_cwS 2 hts gX5_reached_X5_line rfl rfl rfl hd_X5_line ⟨Nat.le_of_ble_eq_true rfl, Nat.le_of_ble_eq_true rfl⟩) hl.1 dX5_reached_37 hP hD hS [] rfl rfl rfl [] rfl (Nat.le_of_ble_eq_true rfl) rfl ⟨Nat.zero_le _, Nat.zero_le _⟩ (fun H locs hP hD hS => ?_)
          refine lv_iload_n hx hb dX5_reached_40 rfl (lv_at hl 3 rfl) ?_
          refine lv_iconst (v := (-1)) hx hb dX5_reached_41 (by decide) ?_
          refine lv_ixor hx hb dX5_reached_42 ?_
          refine lv_iand hx hb dX5_reached_43 ?_
          refine lv_iload_n hx hb dX5_reached_44 rfl (lv_at hl 2 rfl) ?_
          refine lv_iconst (v := (-1)) hx hb dX5_reached_45 (by decide) ?_
          refine lv_ixor hx hb dX5_reached_46 ?_
          refine lv_iand hx hb dX5_reached_47 ?_
          refine lv_istore (lv' := [(7, .int (((mX5_line p0 (mX5_first v15_4)) &&& (v15_3 ^^^ (-1))) &&& (p2 ^^^ (-1)))), (6, .int (mX5_first v15_4)), (0, .long p0), (2, .int p2), (3, .int v15_3), (4, .int v15_4), (5, .int v15_5)]) hx hb dX5_reached_48 hl (by decide) rfl (fun ls hl => ?_)
          refine lv_iload_n hx hb dX5_reached_50 rfl (lv_at hl 4 rfl) ?_
          refine lv_iload hx hb dX5_reached_51 (lv_at hl 0 rfl) ?_
          refine lv_ior hx hb dX5_reached_53 ?_
          refine lv_istore_n (lv' := [(3, .int (v15_3 ||| (((mX5_line p0 (mX5_first v15_4)) &&& (v15_3 ^^^ (-1))) &&& (p2 ^^^ (-1))))), (7, .int (((mX5_line p0 (mX5_first v15_4)) &&& (v15_3 ^^^ (-1))) &&& (p2 ^^^ (-1)))), (6, .int (mX5_first v15_4)), (0, .long p0), (2, .int p2), (4, .int v15_4), (5, .int v15_5)]) hx hb dX5_reached_54 rfl hl (by decide) rfl (fun ls hl => ?_)
          refine lv_iload hx hb dX5_reached_55 (lv_at hl 5 rfl) ?_
          refine lv_iload hx hb dX5_reached_57 (lv_at hl 2 rfl) ?_
          refine kcS0 (st1 := [.int (mX5_only (mX5_first v15_4)), .int v15_4]) X hA (c_X5_only l G cI cZ cE (mX5_first v15_4) _ rfl) (va_cwS 1 hts gX5_reached_X5_only rfl rfl rfl hd_X5_only ⟨Nat.le_of_ble_eq_true rfl, Nat.le_of_ble_eq_true rfl⟩) hl.1 dX5_reached_59 hP hD hS [] rfl rfl rfl [.int v15_4] rfl (Nat.le_of_ble_eq_true rfl) rfl ⟨Nat.zero_le _, Nat.zero_le _⟩ (fun H locs hP hD hS => ?_)
          refine lv_iconst (v := (-1)) hx hb dX5_reached_62 (by decide) ?_
          refine lv_ixor hx hb dX5_reached_63 ?_
          refine lv_iand hx hb dX5_reached_64 ?_
          refine lv_iload hx hb dX5_reached_65 (lv_at hl 1 rfl) ?_
          refine lv_ior hx hb dX5_reached_67 ?_
          refine lv_istore (lv' := [(4, .int ((v15_4 &&& ((mX5_only (mX5_first v15_4)) ^^^ (-1))) ||| (((mX5_line p0 (mX5_first v15_4)) &&& (v15_3 ^^^ (-1))) &&& (p2 ^^^ (-1))))), (3, .int (v15_3 ||| (((mX5_line p0 (mX5_first v15_4)) &&& (v15_3 ^^^ (-1))) &&& (p2 ^^^ (-1))))), (7, .int (((mX5_line p0 (mX5_first v15_4)) &&& (v15_3 ^^^ (-1))) &&& (p2 ^^^ (-1)))), (6, .int (mX5_first v15_4)), (0, .long p0), (2, .int p2), (5, .int v15_5)]) hx hb dX5_reached_68 hl (by decide) rfl (fun ls hl => ?_)
          refine lv_iinc (v := v15_5 + 1) (lv' := [(5, .int (v15_5 + 1)), (4, .int ((v15_4 &&& ((mX5_only (mX5_first v15_4)) ^^^ (-1))) ||| (((mX5_line p0 (mX5_first v15_4)) &&& (v15_3 ^^^ (-1))) &&& (p2 ^^^ (-1))))), (3, .int (v15_3 ||| (((mX5_line p0 (mX5_first v15_4)) &&& (v15_3 ^^^ (-1))) &&& (p2 ^^^ (-1))))), (7, .int (((mX5_line p0 (mX5_first v15_4)) &&& (v15_3 ^^^ (-1))) &&& (p2 ^^^ (-1)))), (6, .int (mX5_first v15_4)), (0, .long p0), (2, .int p2)]) hx hb dX5_reached_70 hl (k := 6) rfl rfl (by decide) rfl (fun ls hl => ?_)
          refine lv_goto (tgt := 15) hx hb dX5_reached_73 (by decide) ?_
          exact ih15 (v15_3 ||| (((mX5_line p0 (mX5_first v15_4)) &&& (v15_3 ^^^ (-1))) &&& (p2 ^^^ (-1)))) ((v15_4 &&& ((mX5_only (mX5_first v15_4)) ^^^ (-1))) ||| (((mX5_line p0 (mX5_first v15_4)) &&& (v15_3 ^^^ (-1))) &&& (p2 ^^^ (-1)))) (v15_5 + 1) _ _ _ hP hD hS (lv_sub hl [5, 6, 2, 1, 0] rfl) hm
  exact h15 kFU ((mX5_only 0) &&& (p2 ^^^ (-1))) ((mX5_only 0) &&& (p2 ^^^ (-1))) 0 _ _ _ hP hD hS (lv_sub hl [3, 4, 2, 1, 0] rfl) hm
theorem hd_X5_reached : yX5_reached.cls ≠ "java/lang/invoke/MethodHandle" ∧ yX5_reached.cls ≠ "java/lang/invoke/VarHandle" ∧ (parseMethodDescriptor yX5_reached.desc).map (fun d => d.parameters.length) = some 2 := by decide +kernel
/-! CoverOrder.Grid isIn -/
set_option maxRecDepth 100000 in
set_option maxHeartbeats 4000000 in
theorem c_X5_isIn (l : Launch) (G : va_G) (cI cZ cE : ClassId) (p0 : Int32) (p1 : Int32) (R : Bool) (hm : mX5_isIn p0 p1 = R) : kM l yX5_isIn wsX5_isIn { frames := 0, cells := 0, slots := 0, locals := 0 } G cI cZ cE [.int p0, .int p1] [] [] (some (.int (bI R))) := by
  refine kM_of cX5_isIn 2 (some .boolean) RX5 (by decide) rfl rfl (Nat.le_of_ble_eq_true rfl) ?_
  intro p e s m below meth c A ls X hA hP hD hS hl
  have hx := X.1.1
  have hb := X.1.2.1
  have hts := X.1.2.2.2.2
  have hown := X.1.2.2.2.1
  have hK := X.2.2.2.1
  have hl : lv_has ls 2 [(0, .int p0), (1, .int p1)] := hl
  rw [mX5_isIn] at hm
  refine lv_iload_n hx hb dX5_isIn_0 rfl (lv_at hl 1 rfl) ?_
  refine lv_if_lt (tgt := 23) hx hb dX5_isIn_1 (by decide) (fun c1 => ?_) (fun c1 => ?_)
  · rw [if_pos c1] at hm
    refine lv_iconst (v := 0) hx hb dX5_isIn_23 (by decide) ?_
    subst hm
    exact k_zret (v := false) X rfl dX5_isIn_24 hP hD hS
  · rw [if_neg c1] at hm
    refine lv_iload_n hx hb dX5_isIn_4 rfl (lv_at hl 1 rfl) ?_
    refine lv_bipush (v := 8) hx hb dX5_isIn_5 (by decide) ?_
    refine lv_icmp_ge (tgt := 23) hx hb dX5_isIn_7 (by decide) (fun c7 => ?_) (fun c7 => ?_)
    · rw [if_pos c7] at hm
      refine lv_iconst (v := 0) hx hb dX5_isIn_23 (by decide) ?_
      subst hm
      exact k_zret (v := false) X rfl dX5_isIn_24 hP hD hS
    · rw [if_neg c7] at hm
      refine lv_iload_n hx hb dX5_isIn_10 rfl (lv_at hl 0 rfl) ?_
      refine lv_iload_n hx hb dX5_isIn_11 rfl (lv_at hl 1 rfl) ?_
      refine lv_iushr (v := ((p0 : Int32).toUInt32 >>> (Int32.toUInt32 p1 &&& Int32.toUInt32 31)).toInt32) hx hb dX5_isIn_12 rfl ?_
      refine lv_iconst (v := 1) hx hb dX5_isIn_13 (by decide) ?_
      refine lv_iand hx hb dX5_isIn_14 ?_
      refine lv_iconst (v := 1) hx hb dX5_isIn_15 (by decide) ?_
      refine lv_icmp_ne (tgt := 23) hx hb dX5_isIn_16 (by decide) (fun c16 => ?_) (fun c16 => ?_)
      · rw [if_neg c16] at hm
        refine lv_iconst (v := 0) hx hb dX5_isIn_23 (by decide) ?_
        subst hm
        exact k_zret (v := false) X rfl dX5_isIn_24 hP hD hS
      · rw [if_pos c16] at hm
        refine lv_iconst (v := 1) hx hb dX5_isIn_19 (by decide) ?_
        refine lv_goto (tgt := 24) hx hb dX5_isIn_20 (by decide) ?_
        subst hm
        exact k_zret (v := true) X rfl dX5_isIn_24 hP hD hS
theorem hd_X5_isIn : yX5_isIn.cls ≠ "java/lang/invoke/MethodHandle" ∧ yX5_isIn.cls ≠ "java/lang/invoke/VarHandle" ∧ (parseMethodDescriptor yX5_isIn.desc).map (fun d => d.parameters.length) = some 2 := by decide +kernel
/-! CoverOrder.Grid column -/
set_option maxRecDepth 100000 in
set_option maxHeartbeats 4000000 in
theorem c_X5_column (l : Launch) (G : va_G) (cI cZ cE : ClassId) (p0 : Int64) (p2 : Int32) (R : Int32) (hm : mX5_column p0 p2 = some R) : kM l yX5_column wsX5_column { frames := 1, cells := 0, slots := 0, locals := 22 } G cI cZ cE [.long p0, .int p2] [] [] (some (.int R)) := by
  refine kM_of cX5_column 5 (some .int) RX5 (by decide) rfl rfl (Nat.le_of_ble_eq_true rfl) ?_
  intro p e s m below meth c A ls X hA hP hD hS hl
  have hx := X.1.1
  have hb := X.1.2.1
  have hts := X.1.2.2.2.2
  have hown := X.1.2.2.2.1
  have hK := X.2.2.2.1
  have hl : lv_has ls 5 [(0, .long p0), (2, .int p2)] := hl
  rw [mX5_column] at hm
  refine lv_iconst (v := 0) hx hb dX5_column_0 (by decide) ?_
  refine lv_istore_n (lv' := [(3, .int 0), (0, .long p0), (2, .int p2)]) hx hb dX5_column_1 rfl hl (by decide) rfl (fun ls hl => ?_)
  refine lv_iconst (v := 0) hx hb dX5_column_2 (by decide) ?_
  refine lv_istore (lv' := [(4, .int 0), (3, .int 0), (0, .long p0), (2, .int p2)]) hx hb dX5_column_3 hl (by decide) rfl (fun ls hl => ?_)
  have h5 : ∀ (n5 : Nat), ∀ (v5_3 : Int32) (v5_4 : Int32) (H : Heap) (locs : List Loc) (ls : Array Slot), va_P G vwCl [] H → va_D A [] → va_S A s.heap H locs → lv_has ls 5 [(0, .long p0), (2, .int p2), (3, .int v5_3), (4, .int v5_4)] → mX5_column_L5 p0 p2 n5 v5_3 v5_4 = some R → W p l e { frames := 1, cells := 0, slots := 0, locals := 22 } s m ([.long p0, .int p2] : List Value).toArray below meth c H locs 0 0 (kQ below G [] (some (.int R)) A ([.long p0, .int p2] : List Value).toArray s) (F0 m 5 ls []) := by
    intro n5
    induction n5 with
    | zero => intro v5_3 v5_4 H locs ls hP hD hS hl hm; rw [mX5_column_L5] at hm; cases hm
    | succ n5 ih5 =>
      intro v5_3 v5_4 H locs ls hP hD hS hl hm
      rw [mX5_column_L5] at hm
      refine lv_iload hx hb dX5_column_5 (lv_at hl 3 rfl) ?_
      refine lv_bipush (v := 8) hx hb dX5_column_7 (by decide) ?_
      refine lv_icmp_ge (tgt := 39) hx hb dX5_column_9 (by decide) (fun c9 => ?_) (fun c9 => ?_)
      · rw [if_pos c9] at hm
        refine lv_iload_n hx hb dX5_column_39 rfl (lv_at hl 2 rfl) ?_
        have hm := Option.some.inj hm
        subst hm
        exact k_iret (v := v5_3) X rfl dX5_column_40 hP hD hS
      · rw [if_neg c9] at hm
        refine lv_lload_n hx hb dX5_column_12 rfl (lv_at hl 0 rfl) ?_
        refine lv_iload hx hb dX5_column_13 (lv_at hl 3 rfl) ?_
        refine kcS0 (st1 := [.int (mX5_line p0 v5_4)]) X hA (c_X5_line l G cI cZ cE p0 v5_4 _ rfl) (va_cwS 2 hts gX5_column_X5_line rfl rfl rfl hd_X5_line ⟨Nat.le_of_ble_eq_true rfl, Nat.le_of_ble_eq_true rfl⟩) hl.1 dX5_column_15 hP hD hS [] rfl rfl rfl [] rfl (Nat.le_of_ble_eq_true rfl) rfl ⟨Nat.zero_le _, Nat.zero_le _⟩ (fun H locs hP hD hS => ?_)
        refine lv_iload_n hx hb dX5_column_18 rfl (lv_at hl 1 rfl) ?_
        refine kcS0 (st1 := [.int (bI (mX5_isIn (mX5_line p0 v5_4) p2))]) X hA (c_X5_isIn l G cI cZ cE (mX5_line p0 v5_4) p2 _ rfl) (va_cwS 2 hts gX5_column_X5_isIn rfl rfl rfl hd_X5_isIn ⟨Nat.le_of_ble_eq_true rfl, Nat.le_of_ble_eq_true rfl⟩) hl.1 dX5_column_19 hP hD hS [] rfl rfl rfl [] rfl (Nat.le_of_ble_eq_true rfl) rfl ⟨Nat.zero_le _, Nat.zero_le _⟩ (fun H locs hP hD hS => ?_)
        refine lv_if_eq (tgt := 33) hx hb dX5_column_22 (by decide) (fun c22 => ?_) (fun c22 => ?_)
        · have c22 := kb0 c22
          rw [if_neg c22] at hm
          refine lv_iinc (v := v5_4 + 1) (lv' := [(4, .int (v5_4 + 1)), (0, .long p0), (2, .int p2), (3, .int v5_3)]) hx hb dX5_column_33 hl (k := 3) rfl rfl (by decide) rfl (fun ls hl => ?_)
          refine lv_goto (tgt := 5) hx hb dX5_column_36 (by decide) ?_
          exact ih5 v5_3 (v5_4 + 1) _ _ _ hP hD hS (lv_sub hl [1, 2, 3, 0] rfl) hm
        · have c22 := kb1 c22
          rw [if_pos c22] at hm
          refine lv_iload_n hx hb dX5_column_25 rfl (lv_at hl 2 rfl) ?_
          refine lv_iload hx hb dX5_column_26 (lv_at hl 3 rfl) ?_
          refine kcS0 (st1 := [.int (mX5_only v5_4), .int v5_3]) X hA (c_X5_only l G cI cZ cE v5_4 _ rfl) (va_cwS 1 hts gX5_column_X5_only rfl rfl rfl hd_X5_only ⟨Nat.le_of_ble_eq_true rfl, Nat.le_of_ble_eq_true rfl⟩) hl.1 dX5_column_28 hP hD hS [] rfl rfl rfl [.int v5_3] rfl (Nat.le_of_ble_eq_true rfl) rfl ⟨Nat.zero_le _, Nat.zero_le _⟩ (fun H locs hP hD hS => ?_)
          refine lv_ior hx hb dX5_column_31 ?_
          refine lv_istore_n (lv' := [(3, .int (v5_3 ||| (mX5_only v5_4))), (0, .long p0), (2, .int p2), (4, .int v5_4)]) hx hb dX5_column_32 rfl hl (by decide) rfl (fun ls hl => ?_)
          refine lv_iinc (v := v5_4 + 1) (lv' := [(4, .int (v5_4 + 1)), (3, .int (v5_3 ||| (mX5_only v5_4))), (0, .long p0), (2, .int p2)]) hx hb dX5_column_33 hl (k := 3) rfl rfl (by decide) rfl (fun ls hl => ?_)
          refine lv_goto (tgt := 5) hx hb dX5_column_36 (by decide) ?_
          exact ih5 (v5_3 ||| (mX5_only v5_4)) (v5_4 + 1) _ _ _ hP hD hS (lv_sub hl [2, 3, 1, 0] rfl) hm
  exact h5 kFU 0 0 _ _ _ hP hD hS (lv_sub hl [2, 3, 1, 0] rfl) hm
theorem hd_X5_column : yX5_column.cls ≠ "java/lang/invoke/MethodHandle" ∧ yX5_column.cls ≠ "java/lang/invoke/VarHandle" ∧ (parseMethodDescriptor yX5_column.desc).map (fun d => d.parameters.length) = some 2 := by decide +kernel
/-! CoverOrder.Grid turned -/
set_option maxRecDepth 100000 in
set_option maxHeartbeats 4000000 in
theorem c_X5_turned (l : Launch) (G : va_G) (cI cZ cE : ClassId) (p0 : Int64) (R : Int64) (hm : mX5_turned p0 = some R) : kM l yX5_turned wsX5_turned { frames := 2, cells := 0, slots := 0, locals := 46 } G cI cZ cE [.long p0] [] [] (some (.long R)) := by
  refine kM_of cX5_turned 5 (some .long) RX5 (by decide) rfl rfl (Nat.le_of_ble_eq_true rfl) ?_
  intro p e s m below meth c A ls X hA hP hD hS hl
  have hx := X.1.1
  have hb := X.1.2.1
  have hts := X.1.2.2.2.2
  have hown := X.1.2.2.2.1
  have hK := X.2.2.2.1
  have hl : lv_has ls 5 [(0, .long p0)] := hl
  rw [mX5_turned] at hm
  refine lv_lconst (v := 0) hx hb dX5_turned_0 (by decide) ?_
  refine lv_lstore_n (lv' := [(2, .long 0), (0, .long p0)]) hx hb dX5_turned_1 rfl hl (by decide) rfl (fun ls hl => ?_)
  refine lv_iconst (v := 0) hx hb dX5_turned_2 (by decide) ?_
  refine lv_istore (lv' := [(4, .int 0), (2, .long 0), (0, .long p0)]) hx hb dX5_turned_3 hl (by decide) rfl (fun ls hl => ?_)
  have h5 : ∀ (n5 : Nat), ∀ (v5_2 : Int64) (v5_4 : Int32) (H : Heap) (locs : List Loc) (ls : Array Slot), va_P G vwCl [] H → va_D A [] → va_S A s.heap H locs → lv_has ls 5 [(0, .long p0), (2, .long v5_2), (4, .int v5_4)] → mX5_turned_L5 p0 n5 v5_2 v5_4 = some R → W p l e { frames := 2, cells := 0, slots := 0, locals := 46 } s m ([.long p0] : List Value).toArray below meth c H locs 0 0 (kQ below G [] (some (.long R)) A ([.long p0] : List Value).toArray s) (F0 m 5 ls []) := by
    intro n5
    induction n5 with
    | zero => intro v5_2 v5_4 H locs ls hP hD hS hl hm; rw [mX5_turned_L5] at hm; cases hm
    | succ n5 ih5 =>
      intro v5_2 v5_4 H locs ls hP hD hS hl hm
      rw [mX5_turned_L5] at hm
      refine lv_iload hx hb dX5_turned_5 (lv_at hl 2 rfl) ?_
      refine lv_bipush (v := 8) hx hb dX5_turned_7 (by decide) ?_
      refine lv_icmp_ge (tgt := 31) hx hb dX5_turned_9 (by decide) (fun c9 => ?_) (fun c9 => ?_)
      · rw [if_pos c9] at hm
        refine lv_lload_n hx hb dX5_turned_31 rfl (lv_at hl 1 rfl) ?_
        have hm := Option.some.inj hm
        subst hm
        exact k_lret X rfl dX5_turned_32 hP hD hS
      · rw [if_neg c9] at hm
        refine lv_lload_n hx hb dX5_turned_12 rfl (lv_at hl 1 rfl) ?_
        refine lv_iload hx hb dX5_turned_13 (lv_at hl 2 rfl) ?_
        refine lv_lload_n hx hb dX5_turned_15 rfl (lv_at hl 0 rfl) ?_
        refine lv_iload hx hb dX5_turned_16 (lv_at hl 2 rfl) ?_
        obtain ⟨r18, hc18, hm⟩ := kbind hm
        refine kcS0 (st1 := [.int r18, .int v5_4, .long v5_2]) X hA (c_X5_column l G cI cZ cE p0 v5_4 r18 hc18) (va_cwS 2 hts gX5_turned_X5_column rfl rfl rfl hd_X5_column ⟨Nat.le_of_ble_eq_true rfl, Nat.le_of_ble_eq_true rfl⟩) hl.1 dX5_turned_18 hP hD hS [] rfl rfl rfl [.int v5_4, .long v5_2] rfl (Nat.le_of_ble_eq_true rfl) rfl ⟨Nat.zero_le _, Nat.zero_le _⟩ (fun H locs hP hD hS => ?_)
        refine kcS0 (st1 := [.long (mX5_withLine v5_2 v5_4 r18)]) X hA (c_X5_withLine l G cI cZ cE v5_2 v5_4 r18 _ rfl) (va_cwS 3 hts gX5_turned_X5_withLine rfl rfl rfl hd_X5_withLine ⟨Nat.le_of_ble_eq_true rfl, Nat.le_of_ble_eq_true rfl⟩) hl.1 dX5_turned_21 hP hD hS [] rfl rfl rfl [] rfl (Nat.le_of_ble_eq_true rfl) rfl ⟨Nat.zero_le _, Nat.zero_le _⟩ (fun H locs hP hD hS => ?_)
        refine lv_lstore_n (lv' := [(2, .long (mX5_withLine v5_2 v5_4 r18)), (0, .long p0), (4, .int v5_4)]) hx hb dX5_turned_24 rfl hl (by decide) rfl (fun ls hl => ?_)
        refine lv_iinc (v := v5_4 + 1) (lv' := [(4, .int (v5_4 + 1)), (2, .long (mX5_withLine v5_2 v5_4 r18)), (0, .long p0)]) hx hb dX5_turned_25 hl (k := 2) rfl rfl (by decide) rfl (fun ls hl => ?_)
        refine lv_goto (tgt := 5) hx hb dX5_turned_28 (by decide) ?_
        exact ih5 (mX5_withLine v5_2 v5_4 r18) (v5_4 + 1) _ _ _ hP hD hS (lv_sub hl [2, 1, 0] rfl) hm
  exact h5 kFU 0 0 _ _ _ hP hD hS (lv_sub hl [2, 1, 0] rfl) hm
theorem hd_X5_turned : yX5_turned.cls ≠ "java/lang/invoke/MethodHandle" ∧ yX5_turned.cls ≠ "java/lang/invoke/VarHandle" ∧ (parseMethodDescriptor yX5_turned.desc).map (fun d => d.parameters.length) = some 1 := by decide +kernel
/-! CoverOrder.Row at -/
set_option maxRecDepth 100000 in
set_option maxHeartbeats 4000000 in
theorem c_X6_at (l : Launch) (G : va_G) (cI cZ cE : ClassId) (a_t a_t_items : Nat) (n_t : Nat) (k_t_size : Int32) (f_t_items : Nat → Int32) (p1 : Int32) (R : Int32) (hm : mX6_at n_t k_t_size f_t_items p1 = R) : kM l yX6_at wsX6_at { frames := 0, cells := 0, slots := 0, locals := 0 } G cI cZ cE [.ref a_t, .int p1] [(a_t, .inr (3, [.ref a_t_items, .int k_t_size])), (a_t_items, .inl (cI, n_t, .inl f_t_items))] [(a_t, .inr (3, [.ref a_t_items, .int k_t_size])), (a_t_items, .inl (cI, n_t, .inl f_t_items))] (some (.int R)) := by
  refine kM_of cX6_at 2 (some .int) RX6 (by decide) rfl rfl (Nat.le_of_ble_eq_true rfl) ?_
  intro p e s m below meth c A ls X hA hP hD hS hl
  have hx := X.1.1
  have hb := X.1.2.1
  have hts := X.1.2.2.2.2
  have hown := X.1.2.2.2.1
  have hK := X.2.2.2.1
  have l_21 : (.fieldLink RX6 21 "CoverOrder$Row" "size" "I" : Cond).before _ s = true := hts _ (List.mem_of_getElem? (i := 1) (by decide +kernel))
  have i_X6 : ∀ w ∈ u_ws RX6 TX6 2, w ∈ wsX6_at := k_in _ [3, 4] (by decide +kernel)
  have l_15 : (.fieldLink RX6 15 "CoverOrder$Row" "items" "[I" : Cond).before _ s = true := hts _ (List.mem_of_getElem? (i := 2) (by decide +kernel))
  have hl : lv_has ls 2 [(0, .ref a_t), (1, .int p1)] := hl
  rw [mX6_at] at hm
  refine lv_iload_n hx hb dX6_at_0 rfl (lv_at hl 1 rfl) ?_
  refine lv_if_lt (tgt := 30) hx hb dX6_at_1 (by decide) (fun c1 => ?_) (fun c1 => ?_)
  · rw [if_pos c1] at hm
    refine lv_bipush (v := (-9)) hx hb dX6_at_30 (by decide) ?_
    subst hm
    exact k_iret (v := (-9)) X rfl dX6_at_32 hP hD hS
  · rw [if_neg c1] at hm
    refine lv_iload_n hx hb dX6_at_4 rfl (lv_at hl 1 rfl) ?_
    refine lv_aload_n hx hb dX6_at_5 rfl (lv_at hl 0 rfl) ?_
    refine va_get (D := G) (ci := 3) (v := .int k_t_size) (C := RX6) (T := TX6) (N := 2) hx hb hts i_X6 hown hK hP 0 rfl rfl 1 (by decide) l_21 (fun _ h9 => h9) rfl dX6_at_6 ?_
    refine lv_icmp_ge (tgt := 30) hx hb dX6_at_9 (by decide) (fun c9 => ?_) (fun c9 => ?_)
    · rw [if_pos c9] at hm
      refine lv_bipush (v := (-9)) hx hb dX6_at_30 (by decide) ?_
      subst hm
      exact k_iret (v := (-9)) X rfl dX6_at_32 hP hD hS
    · rw [if_neg c9] at hm
      refine lv_iload_n hx hb dX6_at_12 rfl (lv_at hl 1 rfl) ?_
      refine lv_aload_n hx hb dX6_at_13 rfl (lv_at hl 0 rfl) ?_
      refine va_get (D := G) (ci := 3) (v := .ref a_t_items) (C := RX6) (T := TX6) (N := 2) hx hb hts i_X6 hown hK hP 0 rfl rfl 0 (by decide) l_15 (fun _ h9 => h9) rfl dX6_at_14 ?_
      refine va_alen (v := Int32.ofNat n_t) hx hb hK hP 1 0 rfl rfl rfl dX6_at_17 ?_
      refine lv_icmp_ge (tgt := 30) hx hb dX6_at_18 (by decide) (fun c18 => ?_) (fun c18 => ?_)
      · rw [if_pos c18] at hm
        refine lv_bipush (v := (-9)) hx hb dX6_at_30 (by decide) ?_
        subst hm
        exact k_iret (v := (-9)) X rfl dX6_at_32 hP hD hS
      · rw [if_neg c18] at hm
        refine lv_aload_n hx hb dX6_at_21 rfl (lv_at hl 0 rfl) ?_
        refine va_get (D := G) (ci := 3) (v := .ref a_t_items) (C := RX6) (T := TX6) (N := 2) hx hb hts i_X6 hown hK hP 0 rfl rfl 0 (by decide) l_15 (fun _ h9 => h9) rfl dX6_at_22 ?_
        refine lv_iload_n hx hb dX6_at_25 rfl (lv_at hl 1 rfl) ?_
        refine va_iald hx hb hK hP 1 0 rfl rfl (kin_path2 c1 c18) dX6_at_26 ?_
        refine lv_goto (tgt := 32) hx hb dX6_at_27 (by decide) ?_
        subst hm
        exact k_iret (v := f_t_items (Int32.toNatClampNeg p1)) X rfl dX6_at_32 hP hD hS
theorem hd_X6_at : yX6_at.cls = RX6 ∧ yX6_at.cls ≠ "java/lang/invoke/MethodHandle" ∧ yX6_at.cls ≠ "java/lang/invoke/VarHandle" ∧ (parseMethodDescriptor yX6_at.desc).map (fun d => d.parameters.length) = some 1 := by decide +kernel
/-! CoverOrder.Row copy -/
set_option maxRecDepth 100000 in
set_option maxHeartbeats 4000000 in
theorem c_X6_copy (l : Launch) (G : va_G) (cI cZ cE : ClassId) (a_t a_t_items a_o0 a_o0_items : Nat) (n_t : Nat) (n_o0 : Nat) (k_t_size : Int32) (f_t_items : Nat → Int32) (k_o0_size : Int32) (f_o0_items : Nat → Int32) (R : Int32 × (Nat → Int32)) (hm : mX6_copy n_t n_o0 k_t_size f_t_items k_o0_size f_o0_items = some R) : kM l yX6_copy wsX6_copy { frames := 3, cells := 0, slots := 0, locals := 64 } G cI cZ cE [.ref a_t, .ref a_o0] [(a_t, .inr (3, [.ref a_t_items, .int k_t_size])), (a_t_items, .inl (cI, n_t, .inl f_t_items)), (a_o0, .inr (3, [.ref a_o0_items, .int k_o0_size])), (a_o0_items, .inl (cI, n_o0, .inl f_o0_items))] [(a_t, .inr (3, [.ref a_t_items, .int R.1])), (a_t_items, .inl (cI, n_t, .inl R.2)), (a_o0, .inr (3, [.ref a_o0_items, .int k_o0_size])), (a_o0_items, .inl (cI, n_o0, .inl f_o0_items))] none := by
  refine kM_of cX6_copy 3 none RX6 (by decide) rfl rfl (Nat.le_of_ble_eq_true rfl) ?_
  intro p e s m below meth c A ls X hA hP hD hS hl
  have hx := X.1.1
  have hb := X.1.2.1
  have hts := X.1.2.2.2.2
  have hown := X.1.2.2.2.1
  have hK := X.2.2.2.1
  have l_21 : (.fieldLink RX6 21 "CoverOrder$Row" "size" "I" : Cond).before _ s = true := hts _ (List.mem_of_getElem? (i := 1) (by decide +kernel))
  have i_X6 : ∀ w ∈ u_ws RX6 TX6 2, w ∈ wsX6_copy := k_in _ [24, 25] (by decide +kernel)
  have hl : lv_has ls 3 [(0, .ref a_t), (1, .ref a_o0)] := hl
  rw [mX6_copy] at hm
  refine lv_aload_n hx hb dX6_copy_0 rfl (lv_at hl 0 rfl) ?_
  refine kcV (ws1 := [(a_t, .inr (3, [.ref a_t_items, .int (mX6_clear k_t_size)])), (a_t_items, .inl (cI, n_t, .inl f_t_items)), (a_o0, .inr (3, [.ref a_o0_items, .int k_o0_size])), (a_o0_items, .inl (cI, n_o0, .inl f_o0_items))]) (st1 := []) X hA (c_X6_clear l G cI cZ cE a_t a_t_items k_t_size _ rfl) (cwV 0 hts gX6_copy_X6_clear rfl rfl rfl hd_X6_clear ⟨Nat.le_of_ble_eq_true rfl, Nat.le_of_ble_eq_true rfl⟩) 0 3 rfl rfl hl.1 dX6_copy_1 hP hD hS [0] rfl rfl rfl rfl rfl [] rfl (Nat.le_of_ble_eq_true rfl) rfl ⟨Nat.zero_le _, Nat.zero_le _⟩ (fun H locs hP hD hS => ?_)
  refine lv_iconst (v := 0) hx hb dX6_copy_4 (by decide) ?_
  refine lv_istore_n (lv' := [(2, .int 0), (0, .ref a_t), (1, .ref a_o0)]) hx hb dX6_copy_5 rfl hl (by decide) rfl (fun ls hl => ?_)
  have h6 : ∀ (n6 : Nat), ∀ (v6_2 : Int32) (w6_k_t_size : Int32) (w6_f_t_items : Nat → Int32) (H : Heap) (locs : List Loc) (ls : Array Slot), va_P G vwCl [(a_t, .inr (3, [.ref a_t_items, .int w6_k_t_size])), (a_t_items, .inl (cI, n_t, .inl w6_f_t_items)), (a_o0, .inr (3, [.ref a_o0_items, .int k_o0_size])), (a_o0_items, .inl (cI, n_o0, .inl f_o0_items))] H → va_D A [(a_t, .inr (3, [.ref a_t_items, .int w6_k_t_size])), (a_t_items, .inl (cI, n_t, .inl w6_f_t_items)), (a_o0, .inr (3, [.ref a_o0_items, .int k_o0_size])), (a_o0_items, .inl (cI, n_o0, .inl f_o0_items))] → va_S A s.heap H locs → lv_has ls 3 [(0, .ref a_t), (1, .ref a_o0), (2, .int v6_2)] → mX6_copy_L6 k_o0_size f_o0_items n_t n_o0 n6 v6_2 w6_k_t_size w6_f_t_items = some R → W p l e { frames := 3, cells := 0, slots := 0, locals := 64 } s m ([.ref a_t, .ref a_o0] : List Value).toArray below meth c H locs 0 0 (kQ below G [(a_t, .inr (3, [.ref a_t_items, .int R.1])), (a_t_items, .inl (cI, n_t, .inl R.2)), (a_o0, .inr (3, [.ref a_o0_items, .int k_o0_size])), (a_o0_items, .inl (cI, n_o0, .inl f_o0_items))] none A ([.ref a_t, .ref a_o0] : List Value).toArray s) (F0 m 6 ls []) := by
    intro n6
    induction n6 with
    | zero => intro v6_2 w6_k_t_size w6_f_t_items H locs ls hP hD hS hl hm; rw [mX6_copy_L6] at hm; cases hm
    | succ n6 ih6 =>
      intro v6_2 w6_k_t_size w6_f_t_items H locs ls hP hD hS hl hm
      rw [mX6_copy_L6] at hm
      refine lv_iload_n hx hb dX6_copy_6 rfl (lv_at hl 2 rfl) ?_
      refine lv_aload_n hx hb dX6_copy_7 rfl (lv_at hl 1 rfl) ?_
      refine va_get (D := G) (ci := 3) (v := .int k_o0_size) (C := RX6) (T := TX6) (N := 2) hx hb hts i_X6 hown hK hP 2 rfl rfl 1 (by decide) l_21 (fun _ h9 => h9) rfl dX6_copy_8 ?_
      refine lv_icmp_ge (tgt := 29) hx hb dX6_copy_11 (by decide) (fun c11 => ?_) (fun c11 => ?_)
      · rw [if_pos c11] at hm
        have hm := Option.some.inj hm
        subst hm
        exact k_vret X rfl dX6_copy_29 hP hD hS
      · rw [if_neg c11] at hm
        refine lv_aload_n hx hb dX6_copy_14 rfl (lv_at hl 0 rfl) ?_
        refine lv_aload_n hx hb dX6_copy_15 rfl (lv_at hl 1 rfl) ?_
        refine lv_iload_n hx hb dX6_copy_16 rfl (lv_at hl 2 rfl) ?_
        refine kcV0 (st1 := [.int (mX6_at n_o0 k_o0_size f_o0_items v6_2), .ref a_t]) X hA (c_X6_at l G cI cZ cE a_o0 a_o0_items n_o0 k_o0_size f_o0_items v6_2 _ rfl) (cwV 1 hts gX6_copy_X6_at rfl rfl rfl hd_X6_at ⟨Nat.le_of_ble_eq_true rfl, Nat.le_of_ble_eq_true rfl⟩) 2 3 rfl rfl hl.1 dX6_copy_17 hP hD hS [2, 3] rfl rfl rfl [.ref a_t] rfl (Nat.le_of_ble_eq_true rfl) rfl ⟨Nat.zero_le _, Nat.zero_le _⟩ (fun H locs hP hD hS => ?_)
        obtain ⟨r20, hc20, hm⟩ := kbind hm
        refine kcV (ws1 := [(a_t, .inr (3, [.ref a_t_items, .int r20.1])), (a_t_items, .inl (cI, n_t, .inl r20.2)), (a_o0, .inr (3, [.ref a_o0_items, .int k_o0_size])), (a_o0_items, .inl (cI, n_o0, .inl f_o0_items))]) (st1 := []) X hA (c_X6_add l G cI cZ cE a_t a_t_items n_t w6_k_t_size w6_f_t_items (mX6_at n_o0 k_o0_size f_o0_items v6_2) r20 hc20) (cwV 1 hts gX6_copy_X6_add rfl rfl rfl hd_X6_add ⟨Nat.le_of_ble_eq_true rfl, Nat.le_of_ble_eq_true rfl⟩) 0 3 rfl rfl hl.1 dX6_copy_20 hP hD hS [0, 1] rfl rfl rfl rfl rfl [] rfl (Nat.le_of_ble_eq_true rfl) rfl ⟨Nat.zero_le _, Nat.zero_le _⟩ (fun H locs hP hD hS => ?_)
        refine lv_iinc (v := v6_2 + 1) (lv' := [(2, .int (v6_2 + 1)), (0, .ref a_t), (1, .ref a_o0)]) hx hb dX6_copy_23 hl (k := 2) rfl rfl (by decide) rfl (fun ls hl => ?_)
        refine lv_goto (tgt := 6) hx hb dX6_copy_26 (by decide) ?_
        exact ih6 (v6_2 + 1) r20.1 r20.2 _ _ _ hP hD hS (lv_sub hl [1, 2, 0] rfl) hm
  exact h6 kFU 0 (mX6_clear k_t_size) f_t_items _ _ _ hP hD hS (lv_sub hl [1, 2, 0] rfl) hm
theorem hd_X6_copy : yX6_copy.cls = RX6 ∧ yX6_copy.cls ≠ "java/lang/invoke/MethodHandle" ∧ yX6_copy.cls ≠ "java/lang/invoke/VarHandle" ∧ (parseMethodDescriptor yX6_copy.desc).map (fun d => d.parameters.length) = some 1 := by decide +kernel
/-! CoverOrder.Grid flipped -/
set_option maxRecDepth 100000 in
set_option maxHeartbeats 4000000 in
theorem c_X5_flipped (l : Launch) (G : va_G) (cI cZ cE : ClassId) (p0 : Int64) (p2 : Int32) (p3 : Int32) (R : Int64) (hm : mX5_flipped p0 p2 p3 = R) : kM l yX5_flipped wsX5_flipped { frames := 0, cells := 0, slots := 0, locals := 0 } G cI cZ cE [.long p0, .int p2, .int p3] [] [] (some (.long R)) := by
  refine kM_of cX5_flipped 4 (some .long) RX5 (by decide) rfl rfl (Nat.le_of_ble_eq_true rfl) ?_
  intro p e s m below meth c A ls X hA hP hD hS hl
  have hx := X.1.1
  have hb := X.1.2.1
  have hts := X.1.2.2.2.2
  have hown := X.1.2.2.2.1
  have hK := X.2.2.2.1
  have hl : lv_has ls 4 [(0, .long p0), (2, .int p2), (3, .int p3)] := hl
  rw [mX5_flipped] at hm
  refine lv_lload_n hx hb dX5_flipped_0 rfl (lv_at hl 0 rfl) ?_
  refine lv_lconst (v := 1) hx hb dX5_flipped_1 (by decide) ?_
  refine lv_bipush (v := 8) hx hb dX5_flipped_2 (by decide) ?_
  refine lv_iload_n hx hb dX5_flipped_4 rfl (lv_at hl 1 rfl) ?_
  refine lv_imul hx hb dX5_flipped_5 ?_
  refine lv_iload_n hx hb dX5_flipped_6 rfl (lv_at hl 2 rfl) ?_
  refine lv_iadd hx hb dX5_flipped_7 ?_
  refine lv_lshl (v := 1 <<< ((((8 * p2) + p3) : Int32).toInt64 &&& 63)) hx hb dX5_flipped_8 rfl ?_
  refine lv_lxor hx hb dX5_flipped_9 ?_
  subst hm
  exact k_lret X rfl dX5_flipped_10 hP hD hS
theorem hd_X5_flipped : yX5_flipped.cls ≠ "java/lang/invoke/MethodHandle" ∧ yX5_flipped.cls ≠ "java/lang/invoke/VarHandle" ∧ (parseMethodDescriptor yX5_flipped.desc).map (fun d => d.parameters.length) = some 3 := by decide +kernel
/-! CoverOrder.Figures fit -/
set_option maxRecDepth 100000 in
set_option maxHeartbeats 4000000 in
theorem c_X4_fit (l : Launch) (G : va_G) (cI cZ cE : ClassId) (p0 : Int64) (p2 : Int32) (R : Bool) (hm : mX4_fit p0 p2 = some R) : kM l yX4_fit wsX4_fit { frames := 0, cells := 0, slots := 0, locals := 0 } G cI cZ cE [.long p0, .int p2] [] [] (some (.int (bI R))) := by
  refine kM_of cX4_fit 6 (some .boolean) RX4 (by decide) rfl rfl (Nat.le_of_ble_eq_true rfl) ?_
  intro p e s m below meth c A ls X hA hP hD hS hl
  have hx := X.1.1
  have hb := X.1.2.1
  have hts := X.1.2.2.2.2
  have hown := X.1.2.2.2.1
  have hK := X.2.2.2.1
  have k_7 : (.constantLong RX4 7 (10) : Cond).before _ s = true := hts _ (List.mem_of_getElem? (i := 1) (by decide +kernel))
  have hl : lv_has ls 6 [(0, .long p0), (2, .int p2)] := hl
  rw [mX4_fit] at hm
  refine lv_lload_n hx hb dX4_fit_0 rfl (lv_at hl 0 rfl) ?_
  refine lv_lstore_n (lv' := [(3, .long p0), (0, .long p0), (2, .int p2)]) hx hb dX4_fit_1 rfl hl (by decide) rfl (fun ls hl => ?_)
  refine lv_iconst (v := 0) hx hb dX4_fit_2 (by decide) ?_
  refine lv_istore (lv' := [(5, .int 0), (3, .long p0), (0, .long p0), (2, .int p2)]) hx hb dX4_fit_3 hl (by decide) rfl (fun ls hl => ?_)
  have h5 : ∀ (n5 : Nat), ∀ (v5_3 : Int64) (v5_5 : Int32) (H : Heap) (locs : List Loc) (ls : Array Slot), va_P G vwCl [] H → va_D A [] → va_S A s.heap H locs → lv_has ls 6 [(0, .long p0), (2, .int p2), (3, .long v5_3), (5, .int v5_5)] → mX4_fit_L5 p0 p2 n5 v5_3 v5_5 = some R → W p l e { frames := 0, cells := 0, slots := 0, locals := 0 } s m ([.long p0, .int p2] : List Value).toArray below meth c H locs 0 0 (kQ below G [] (some (.int (bI R))) A ([.long p0, .int p2] : List Value).toArray s) (F0 m 5 ls []) := by
    intro n5
    induction n5 with
    | zero => intro v5_3 v5_5 H locs ls hP hD hS hl hm; rw [mX4_fit_L5] at hm; cases hm
    | succ n5 ih5 =>
      intro v5_3 v5_5 H locs ls hP hD hS hl hm
      rw [mX4_fit_L5] at hm
      refine lv_iload hx hb dX4_fit_5 (lv_at hl 3 rfl) ?_
      refine lv_iload_n hx hb dX4_fit_7 rfl (lv_at hl 1 rfl) ?_
      have h23 : ∀ (H : Heap) (locs : List Loc) (ls : Array Slot), va_P G vwCl [] H → va_D A [] → va_S A s.heap H locs → lv_has ls 6 [(0, .long p0), (3, .long v5_3)] → mX4_fit_J23 p0 v5_3 = some R → W p l e { frames := 0, cells := 0, slots := 0, locals := 0 } s m ([.long p0, .int p2] : List Value).toArray below meth c H locs 0 0 (kQ below G [] (some (.int (bI R))) A ([.long p0, .int p2] : List Value).toArray s) (F0 m 23 ls []) := by
        intro H locs ls hP hD hS hl hm
        rw [mX4_fit_J23] at hm
        refine lv_lload_n hx hb dX4_fit_23 rfl (lv_at hl 0 rfl) ?_
        refine lv_lconst (v := 0) hx hb dX4_fit_24 (by decide) ?_
        refine W.lcmp hx hb dX4_fit_25 ?_
        refine lv_if_lt (tgt := 39) hx hb dX4_fit_26 (by decide) (fun c26 => ?_) (fun c26 => ?_)
        · rw [if_pos c26] at hm
          refine lv_iconst (v := 0) hx hb dX4_fit_39 (by decide) ?_
          have hm := Option.some.inj hm
          subst hm
          exact k_zret (v := false) X rfl dX4_fit_40 hP hD hS
        · rw [if_neg c26] at hm
          refine lv_lload_n hx hb dX4_fit_29 rfl (lv_at hl 1 rfl) ?_
          refine lv_lconst (v := 0) hx hb dX4_fit_30 (by decide) ?_
          refine W.lcmp hx hb dX4_fit_31 ?_
          refine lv_if_ne (tgt := 39) hx hb dX4_fit_32 (by decide) (fun c32 => ?_) (fun c32 => ?_)
          · rw [if_neg c32] at hm
            refine lv_iconst (v := 0) hx hb dX4_fit_39 (by decide) ?_
            have hm := Option.some.inj hm
            subst hm
            exact k_zret (v := false) X rfl dX4_fit_40 hP hD hS
          · rw [if_pos c32] at hm
            refine lv_iconst (v := 1) hx hb dX4_fit_35 (by decide) ?_
            refine lv_goto (tgt := 40) hx hb dX4_fit_36 (by decide) ?_
            have hm := Option.some.inj hm
            subst hm
            exact k_zret (v := true) X rfl dX4_fit_40 hP hD hS
      refine lv_icmp_ge (tgt := 23) hx hb dX4_fit_8 (by decide) (fun c8 => ?_) (fun c8 => ?_)
      · rw [if_pos c8] at hm
        exact h23 _ _ _ hP hD hS (lv_sub hl [0, 2] rfl) hm
      · rw [if_neg c8] at hm
        refine lv_lload_n hx hb dX4_fit_11 rfl (lv_at hl 2 rfl) ?_
        refine lv_ldc2 (v := 10) hx hb hown k_7 dX4_fit_12 ?_
        refine lv_ldiv hx hb dX4_fit_15 (by decide) ?_
        refine lv_lstore_n (lv' := [(3, .long (v5_3 / 10)), (0, .long p0), (2, .int p2), (5, .int v5_5)]) hx hb dX4_fit_16 rfl hl (by decide) rfl (fun ls hl => ?_)
        refine lv_iinc (v := v5_5 + 1) (lv' := [(5, .int (v5_5 + 1)), (3, .long (v5_3 / 10)), (0, .long p0), (2, .int p2)]) hx hb dX4_fit_17 hl (k := 3) rfl rfl (by decide) rfl (fun ls hl => ?_)
        refine lv_goto (tgt := 5) hx hb dX4_fit_20 (by decide) ?_
        exact ih5 (v5_3 / 10) (v5_5 + 1) _ _ _ hP hD hS (lv_sub hl [2, 3, 1, 0] rfl) hm
  exact h5 kFU p0 0 _ _ _ hP hD hS (lv_sub hl [2, 3, 1, 0] rfl) hm
theorem hd_X4_fit : yX4_fit.cls ≠ "java/lang/invoke/MethodHandle" ∧ yX4_fit.cls ≠ "java/lang/invoke/VarHandle" ∧ (parseMethodDescriptor yX4_fit.desc).map (fun d => d.parameters.length) = some 2 := by decide +kernel
/-! CoverOrder.Figures at -/
set_option maxRecDepth 100000 in
set_option maxHeartbeats 4000000 in
theorem c_X4_at (l : Launch) (G : va_G) (cI cZ cE : ClassId) (p0 : Int64) (p2 : Int32) (p3 : Int32) (R : Int32) (hm : mX4_at p0 p2 p3 = some R) : kM l yX4_at wsX4_at { frames := 0, cells := 0, slots := 0, locals := 0 } G cI cZ cE [.long p0, .int p2, .int p3] [] [] (some (.int R)) := by
  refine kM_of cX4_at 7 (some .int) RX4 (by decide) rfl rfl (Nat.le_of_ble_eq_true rfl) ?_
  intro p e s m below meth c A ls X hA hP hD hS hl
  have hx := X.1.1
  have hb := X.1.2.1
  have hts := X.1.2.2.2.2
  have hown := X.1.2.2.2.1
  have hK := X.2.2.2.1
  have k_7 : (.constantLong RX4 7 (10) : Cond).before _ s = true := hts _ (List.mem_of_getElem? (i := 1) (by decide +kernel))
  have hl : lv_has ls 7 [(0, .long p0), (2, .int p2), (3, .int p3)] := hl
  rw [mX4_at] at hm
  refine lv_lload_n hx hb dX4_at_0 rfl (lv_at hl 0 rfl) ?_
  refine lv_lstore (lv' := [(4, .long p0), (0, .long p0), (2, .int p2), (3, .int p3)]) hx hb dX4_at_1 hl (by decide) rfl (fun ls hl => ?_)
  refine lv_iload_n hx hb dX4_at_3 rfl (lv_at hl 2 rfl) ?_
  refine lv_iconst (v := 1) hx hb dX4_at_4 (by decide) ?_
  refine lv_iadd hx hb dX4_at_5 ?_
  refine lv_istore (lv' := [(6, .int (p2 + 1)), (4, .long p0), (0, .long p0), (2, .int p2), (3, .int p3)]) hx hb dX4_at_6 hl (by decide) rfl (fun ls hl => ?_)
  have h8 : ∀ (n8 : Nat), ∀ (v8_4 : Int64) (v8_6 : Int32) (H : Heap) (locs : List Loc) (ls : Array Slot), va_P G vwCl [] H → va_D A [] → va_S A s.heap H locs → lv_has ls 7 [(3, .int p3), (4, .long v8_4), (6, .int v8_6)] → mX4_at_L8 p3 n8 v8_4 v8_6 = some R → W p l e { frames := 0, cells := 0, slots := 0, locals := 0 } s m ([.long p0, .int p2, .int p3] : List Value).toArray below meth c H locs 0 0 (kQ below G [] (some (.int R)) A ([.long p0, .int p2, .int p3] : List Value).toArray s) (F0 m 8 ls []) := by
    intro n8
    induction n8 with
    | zero => intro v8_4 v8_6 H locs ls hP hD hS hl hm; rw [mX4_at_L8] at hm; cases hm
    | succ n8 ih8 =>
      intro v8_4 v8_6 H locs ls hP hD hS hl hm
      rw [mX4_at_L8] at hm
      refine lv_iload hx hb dX4_at_8 (lv_at hl 2 rfl) ?_
      refine lv_iload_n hx hb dX4_at_10 rfl (lv_at hl 0 rfl) ?_
      refine lv_icmp_ge (tgt := 28) hx hb dX4_at_11 (by decide) (fun c11 => ?_) (fun c11 => ?_)
      · rw [if_pos c11] at hm
        refine lv_lload hx hb dX4_at_28 (lv_at hl 1 rfl) ?_
        refine lv_ldc2 (v := 10) hx hb hown k_7 dX4_at_30 ?_
        refine lv_lrem hx hb dX4_at_33 (by decide) ?_
        refine lv_l2i (v := (v8_4 - v8_4 / 10 * 10 : Int64).toInt32) hx hb dX4_at_34 rfl ?_
        have hm := Option.some.inj hm
        subst hm
        exact k_iret (v := (v8_4 - v8_4 / 10 * 10 : Int64).toInt32) X rfl dX4_at_35 hP hD hS
      · rw [if_neg c11] at hm
        refine lv_lload hx hb dX4_at_14 (lv_at hl 1 rfl) ?_
        refine lv_ldc2 (v := 10) hx hb hown k_7 dX4_at_16 ?_
        refine lv_ldiv hx hb dX4_at_19 (by decide) ?_
        refine lv_lstore (lv' := [(4, .long (v8_4 / 10)), (3, .int p3), (6, .int v8_6)]) hx hb dX4_at_20 hl (by decide) rfl (fun ls hl => ?_)
        refine lv_iinc (v := v8_6 + 1) (lv' := [(6, .int (v8_6 + 1)), (4, .long (v8_4 / 10)), (3, .int p3)]) hx hb dX4_at_22 hl (k := 2) rfl rfl (by decide) rfl (fun ls hl => ?_)
        refine lv_goto (tgt := 8) hx hb dX4_at_25 (by decide) ?_
        exact ih8 (v8_4 / 10) (v8_6 + 1) _ _ _ hP hD hS (lv_sub hl [2, 1, 0] rfl) hm
  exact h8 kFU p0 (p2 + 1) _ _ _ hP hD hS (lv_sub hl [4, 1, 0] rfl) hm
theorem hd_X4_at : yX4_at.cls ≠ "java/lang/invoke/MethodHandle" ∧ yX4_at.cls ≠ "java/lang/invoke/VarHandle" ∧ (parseMethodDescriptor yX4_at.desc).map (fun d => d.parameters.length) = some 3 := by decide +kernel
/-! CoverOrder.Row placeOf -/
set_option maxRecDepth 100000 in
set_option maxHeartbeats 4000000 in
theorem c_X6_placeOf (l : Launch) (G : va_G) (cI cZ cE : ClassId) (a_t a_t_items : Nat) (n_t : Nat) (k_t_size : Int32) (f_t_items : Nat → Int32) (p1 : Int32) (R : Int32) (hm : mX6_placeOf n_t k_t_size f_t_items p1 = some R) : kM l yX6_placeOf wsX6_placeOf { frames := 1, cells := 0, slots := 0, locals := 21 } G cI cZ cE [.ref a_t, .int p1] [(a_t, .inr (3, [.ref a_t_items, .int k_t_size])), (a_t_items, .inl (cI, n_t, .inl f_t_items))] [(a_t, .inr (3, [.ref a_t_items, .int k_t_size])), (a_t_items, .inl (cI, n_t, .inl f_t_items))] (some (.int R)) := by
  refine kM_of cX6_placeOf 3 (some .int) RX6 (by decide) rfl rfl (Nat.le_of_ble_eq_true rfl) ?_
  intro p e s m below meth c A ls X hA hP hD hS hl
  have hx := X.1.1
  have hb := X.1.2.1
  have hts := X.1.2.2.2.2
  have hown := X.1.2.2.2.1
  have hK := X.2.2.2.1
  have l_21 : (.fieldLink RX6 21 "CoverOrder$Row" "size" "I" : Cond).before _ s = true := hts _ (List.mem_of_getElem? (i := 1) (by decide +kernel))
  have i_X6 : ∀ w ∈ u_ws RX6 TX6 2, w ∈ wsX6_placeOf := k_in _ [8, 9] (by decide +kernel)
  have hl : lv_has ls 3 [(0, .ref a_t), (1, .int p1)] := hl
  rw [mX6_placeOf] at hm
  refine lv_iconst (v := 0) hx hb dX6_placeOf_0 (by decide) ?_
  refine lv_istore_n (lv' := [(2, .int 0), (0, .ref a_t), (1, .int p1)]) hx hb dX6_placeOf_1 rfl hl (by decide) rfl (fun ls hl => ?_)
  have h2 : ∀ (n2 : Nat), ∀ (v2_2 : Int32) (H : Heap) (locs : List Loc) (ls : Array Slot), va_P G vwCl [(a_t, .inr (3, [.ref a_t_items, .int k_t_size])), (a_t_items, .inl (cI, n_t, .inl f_t_items))] H → va_D A [(a_t, .inr (3, [.ref a_t_items, .int k_t_size])), (a_t_items, .inl (cI, n_t, .inl f_t_items))] → va_S A s.heap H locs → lv_has ls 3 [(0, .ref a_t), (1, .int p1), (2, .int v2_2)] → mX6_placeOf_L2 k_t_size f_t_items n_t p1 n2 v2_2 = some R → W p l e { frames := 1, cells := 0, slots := 0, locals := 21 } s m ([.ref a_t, .int p1] : List Value).toArray below meth c H locs 0 0 (kQ below G [(a_t, .inr (3, [.ref a_t_items, .int k_t_size])), (a_t_items, .inl (cI, n_t, .inl f_t_items))] (some (.int R)) A ([.ref a_t, .int p1] : List Value).toArray s) (F0 m 2 ls []) := by
    intro n2
    induction n2 with
    | zero => intro v2_2 H locs ls hP hD hS hl hm; rw [mX6_placeOf_L2] at hm; cases hm
    | succ n2 ih2 =>
      intro v2_2 H locs ls hP hD hS hl hm
      rw [mX6_placeOf_L2] at hm
      refine lv_iload_n hx hb dX6_placeOf_2 rfl (lv_at hl 2 rfl) ?_
      refine lv_aload_n hx hb dX6_placeOf_3 rfl (lv_at hl 0 rfl) ?_
      refine va_get (D := G) (ci := 3) (v := .int k_t_size) (C := RX6) (T := TX6) (N := 2) hx hb hts i_X6 hown hK hP 0 rfl rfl 1 (by decide) l_21 (fun _ h9 => h9) rfl dX6_placeOf_4 ?_
      refine lv_icmp_ge (tgt := 27) hx hb dX6_placeOf_7 (by decide) (fun c7 => ?_) (fun c7 => ?_)
      · rw [if_pos c7] at hm
        refine lv_bipush (v := (-9)) hx hb dX6_placeOf_27 (by decide) ?_
        have hm := Option.some.inj hm
        subst hm
        exact k_iret (v := (-9)) X rfl dX6_placeOf_29 hP hD hS
      · rw [if_neg c7] at hm
        refine lv_aload_n hx hb dX6_placeOf_10 rfl (lv_at hl 0 rfl) ?_
        refine lv_iload_n hx hb dX6_placeOf_11 rfl (lv_at hl 2 rfl) ?_
        refine kcV0 (st1 := [.int (mX6_at n_t k_t_size f_t_items v2_2)]) X hA (c_X6_at l G cI cZ cE a_t a_t_items n_t k_t_size f_t_items v2_2 _ rfl) (cwV 1 hts gX6_placeOf_X6_at rfl rfl rfl hd_X6_at ⟨Nat.le_of_ble_eq_true rfl, Nat.le_of_ble_eq_true rfl⟩) 0 3 rfl rfl hl.1 dX6_placeOf_12 hP hD hS [0, 1] rfl rfl rfl [] rfl (Nat.le_of_ble_eq_true rfl) rfl ⟨Nat.zero_le _, Nat.zero_le _⟩ (fun H locs hP hD hS => ?_)
        refine lv_iload_n hx hb dX6_placeOf_15 rfl (lv_at hl 1 rfl) ?_
        refine lv_icmp_ne (tgt := 21) hx hb dX6_placeOf_16 (by decide) (fun c16 => ?_) (fun c16 => ?_)
        · rw [if_neg c16] at hm
          refine lv_iinc (v := v2_2 + 1) (lv' := [(2, .int (v2_2 + 1)), (0, .ref a_t), (1, .int p1)]) hx hb dX6_placeOf_21 hl (k := 2) rfl rfl (by decide) rfl (fun ls hl => ?_)
          refine lv_goto (tgt := 2) hx hb dX6_placeOf_24 (by decide) ?_
          exact ih2 (v2_2 + 1) _ _ _ hP hD hS (lv_sub hl [1, 2, 0] rfl) hm
        · rw [if_pos c16] at hm
          refine lv_iload_n hx hb dX6_placeOf_19 rfl (lv_at hl 2 rfl) ?_
          have hm := Option.some.inj hm
          subst hm
          exact k_iret (v := v2_2) X rfl dX6_placeOf_20 hP hD hS
  exact h2 kFU 0 _ _ _ hP hD hS (lv_sub hl [1, 2, 0] rfl) hm
theorem hd_X6_placeOf : yX6_placeOf.cls = RX6 ∧ yX6_placeOf.cls ≠ "java/lang/invoke/MethodHandle" ∧ yX6_placeOf.cls ≠ "java/lang/invoke/VarHandle" ∧ (parseMethodDescriptor yX6_placeOf.desc).map (fun d => d.parameters.length) = some 1 := by decide +kernel
/-! java/lang/Long bitCount -/
set_option maxRecDepth 100000 in
set_option maxHeartbeats 4000000 in
theorem c_J13_bitCount_95d88 (l : Launch) (G : va_G) (cI cZ cE : ClassId) (p0 : Int64) (R : Int32) (hm : mJ13_bitCount_95d88 p0 = R) : kM l yJ13_bitCount_95d88 wsJ13_bitCount_95d88 { frames := 0, cells := 0, slots := 0, locals := 0 } G cI cZ cE [.long p0] [] [] (some (.int R)) := by
  refine kM_of cJ13_bitCount_95d88 2 (some .int) RJ13 (by decide) rfl rfl (Nat.le_of_ble_eq_true rfl) ?_
  intro p e s m below meth c A ls X hA hP hD hS hl
  have hx := X.1.1
  have hb := X.1.2.1
  have hts := X.1.2.2.2.2
  have hown := X.1.2.2.2.1
  have hK := X.2.2.2.1
  have k_314 : (.constantLong RJ13 314 (6148914691236517205) : Cond).before _ s = true := hts _ (List.mem_of_getElem? (i := 1) (by decide +kernel))
  have k_316 : (.constantLong RJ13 316 (3689348814741910323) : Cond).before _ s = true := hts _ (List.mem_of_getElem? (i := 2) (by decide +kernel))
  have k_318 : (.constantLong RJ13 318 (1085102592571150095) : Cond).before _ s = true := hts _ (List.mem_of_getElem? (i := 3) (by decide +kernel))
  have hl : lv_has ls 2 [(0, .long p0)] := hl
  rw [mJ13_bitCount_95d88] at hm
  refine lv_lload_n hx hb dJ13_bitCount_95d88_0 rfl (lv_at hl 0 rfl) ?_
  refine lv_lload_n hx hb dJ13_bitCount_95d88_1 rfl (lv_at hl 0 rfl) ?_
  refine lv_iconst (v := 1) hx hb dJ13_bitCount_95d88_2 (by decide) ?_
  refine lv_lushr (v := ((p0 : Int64).toUInt64 >>> ((1 : Int32).toInt64.toUInt64 &&& Int64.toUInt64 63)).toInt64) hx hb dJ13_bitCount_95d88_3 rfl ?_
  refine lv_ldc2 (v := 6148914691236517205) hx hb hown k_314 dJ13_bitCount_95d88_4 ?_
  refine lv_land hx hb dJ13_bitCount_95d88_7 ?_
  refine lv_lsub hx hb dJ13_bitCount_95d88_8 ?_
  refine lv_lstore_n (lv' := [(0, .long (p0 - ((((p0 : Int64).toUInt64 >>> ((1 : Int32).toInt64.toUInt64 &&& Int64.toUInt64 63)).toInt64) &&& 6148914691236517205)))]) hx hb dJ13_bitCount_95d88_9 rfl hl (by decide) rfl (fun ls hl => ?_)
  refine lv_lload_n hx hb dJ13_bitCount_95d88_10 rfl (lv_at hl 0 rfl) ?_
  refine lv_ldc2 (v := 3689348814741910323) hx hb hown k_316 dJ13_bitCount_95d88_11 ?_
  refine lv_land hx hb dJ13_bitCount_95d88_14 ?_
  refine lv_lload_n hx hb dJ13_bitCount_95d88_15 rfl (lv_at hl 0 rfl) ?_
  refine lv_iconst (v := 2) hx hb dJ13_bitCount_95d88_16 (by decide) ?_
  refine lv_lushr (v := (((p0 - ((((p0 : Int64).toUInt64 >>> ((1 : Int32).toInt64.toUInt64 &&& Int64.toUInt64 63)).toInt64) &&& 6148914691236517205)) : Int64).toUInt64 >>> ((2 : Int32).toInt64.toUInt64 &&& Int64.toUInt64 63)).toInt64) hx hb dJ13_bitCount_95d88_17 rfl ?_
  refine lv_ldc2 (v := 3689348814741910323) hx hb hown k_316 dJ13_bitCount_95d88_18 ?_
  refine lv_land hx hb dJ13_bitCount_95d88_21 ?_
  refine lv_ladd hx hb dJ13_bitCount_95d88_22 ?_
  refine lv_lstore_n (lv' := [(0, .long (((p0 - ((((p0 : Int64).toUInt64 >>> ((1 : Int32).toInt64.toUInt64 &&& Int64.toUInt64 63)).toInt64) &&& 6148914691236517205)) &&& 3689348814741910323) + (((((p0 - ((((p0 : Int64).toUInt64 >>> ((1 : Int32).toInt64.toUInt64 &&& Int64.toUInt64 63)).toInt64) &&& 6148914691236517205)) : Int64).toUInt64 >>> ((2 : Int32).toInt64.toUInt64 &&& Int64.toUInt64 63)).toInt64) &&& 3689348814741910323)))]) hx hb dJ13_bitCount_95d88_23 rfl hl (by decide) rfl (fun ls hl => ?_)
  refine lv_lload_n hx hb dJ13_bitCount_95d88_24 rfl (lv_at hl 0 rfl) ?_
  refine lv_lload_n hx hb dJ13_bitCount_95d88_25 rfl (lv_at hl 0 rfl) ?_
  refine lv_iconst (v := 4) hx hb dJ13_bitCount_95d88_26 (by decide) ?_
  refine lv_lushr (v := (((((p0 - ((((p0 : Int64).toUInt64 >>> ((1 : Int32).toInt64.toUInt64 &&& Int64.toUInt64 63)).toInt64) &&& 6148914691236517205)) &&& 3689348814741910323) + (((((p0 - ((((p0 : Int64).toUInt64 >>> ((1 : Int32).toInt64.toUInt64 &&& Int64.toUInt64 63)).toInt64) &&& 6148914691236517205)) : Int64).toUInt64 >>> ((2 : Int32).toInt64.toUInt64 &&& Int64.toUInt64 63)).toInt64) &&& 3689348814741910323)) : Int64).toUInt64 >>> ((4 : Int32).toInt64.toUInt64 &&& Int64.toUInt64 63)).toInt64) hx hb dJ13_bitCount_95d88_27 rfl ?_
  refine lv_ladd hx hb dJ13_bitCount_95d88_28 ?_
  refine lv_ldc2 (v := 1085102592571150095) hx hb hown k_318 dJ13_bitCount_95d88_29 ?_
  refine lv_land hx hb dJ13_bitCount_95d88_32 ?_
  refine lv_lstore_n (lv' := [(0, .long (((((p0 - ((((p0 : Int64).toUInt64 >>> ((1 : Int32).toInt64.toUInt64 &&& Int64.toUInt64 63)).toInt64) &&& 6148914691236517205)) &&& 3689348814741910323) + (((((p0 - ((((p0 : Int64).toUInt64 >>> ((1 : Int32).toInt64.toUInt64 &&& Int64.toUInt64 63)).toInt64) &&& 6148914691236517205)) : Int64).toUInt64 >>> ((2 : Int32).toInt64.toUInt64 &&& Int64.toUInt64 63)).toInt64) &&& 3689348814741910323)) + ((((((p0 - ((((p0 : Int64).toUInt64 >>> ((1 : Int32).toInt64.toUInt64 &&& Int64.toUInt64 63)).toInt64) &&& 6148914691236517205)) &&& 3689348814741910323) + (((((p0 - ((((p0 : Int64).toUInt64 >>> ((1 : Int32).toInt64.toUInt64 &&& Int64.toUInt64 63)).toInt64) &&& 6148914691236517205)) : Int64).toUInt64 >>> ((2 : Int32).toInt64.toUInt64 &&& Int64.toUInt64 63)).toInt64) &&& 3689348814741910323)) : Int64).toUInt64 >>> ((4 : Int32).toInt64.toUInt64 &&& Int64.toUInt64 63)).toInt64)) &&& 1085102592571150095))]) hx hb dJ13_bitCount_95d88_33 rfl hl (by decide) rfl (fun ls hl => ?_)
  refine lv_lload_n hx hb dJ13_bitCount_95d88_34 rfl (lv_at hl 0 rfl) ?_
  refine lv_lload_n hx hb dJ13_bitCount_95d88_35 rfl (lv_at hl 0 rfl) ?_
  refine lv_bipush (v := 8) hx hb dJ13_bitCount_95d88_36 (by decide) ?_
  refine lv_lushr (v := (((((((p0 - ((((p0 : Int64).toUInt64 >>> ((1 : Int32).toInt64.toUInt64 &&& Int64.toUInt64 63)).toInt64) &&& 6148914691236517205)) &&& 3689348814741910323) + (((((p0 - ((((p0 : Int64).toUInt64 >>> ((1 : Int32).toInt64.toUInt64 &&& Int64.toUInt64 63)).toInt64) &&& 6148914691236517205)) : Int64).toUInt64 >>> ((2 : Int32).toInt64.toUInt64 &&& Int64.toUInt64 63)).toInt64) &&& 3689348814741910323)) + ((((((p0 - ((((p0 : Int64).toUInt64 >>> ((1 : Int32).toInt64.toUInt64 &&& Int64.toUInt64 63)).toInt64) &&& 6148914691236517205)) &&& 3689348814741910323) + (((((p0 - ((((p0 : Int64).toUInt64 >>> ((1 : Int32).toInt64.toUInt64 &&& Int64.toUInt64 63)).toInt64) &&& 6148914691236517205)) : Int64).toUInt64 >>> ((2 : Int32).toInt64.toUInt64 &&& Int64.toUInt64 63)).toInt64) &&& 3689348814741910323)) : Int64).toUInt64 >>> ((4 : Int32).toInt64.toUInt64 &&& Int64.toUInt64 63)).toInt64)) &&& 1085102592571150095) : Int64).toUInt64 >>> ((8 : Int32).toInt64.toUInt64 &&& Int64.toUInt64 63)).toInt64) hx hb dJ13_bitCount_95d88_38 rfl ?_
  refine lv_ladd hx hb dJ13_bitCount_95d88_39 ?_
  refine lv_lstore_n (lv' := [(0, .long ((((((p0 - ((((p0 : Int64).toUInt64 >>> ((1 : Int32).toInt64.toUInt64 &&& Int64.toUInt64 63)).toInt64) &&& 6148914691236517205)) &&& 3689348814741910323) + (((((p0 - ((((p0 : Int64).toUInt64 >>> ((1 : Int32).toInt64.toUInt64 &&& Int64.toUInt64 63)).toInt64) &&& 6148914691236517205)) : Int64).toUInt64 >>> ((2 : Int32).toInt64.toUInt64 &&& Int64.toUInt64 63)).toInt64) &&& 3689348814741910323)) + ((((((p0 - ((((p0 : Int64).toUInt64 >>> ((1 : Int32).toInt64.toUInt64 &&& Int64.toUInt64 63)).toInt64) &&& 6148914691236517205)) &&& 3689348814741910323) + (((((p0 - ((((p0 : Int64).toUInt64 >>> ((1 : Int32).toInt64.toUInt64 &&& Int64.toUInt64 63)).toInt64) &&& 6148914691236517205)) : Int64).toUInt64 >>> ((2 : Int32).toInt64.toUInt64 &&& Int64.toUInt64 63)).toInt64) &&& 3689348814741910323)) : Int64).toUInt64 >>> ((4 : Int32).toInt64.toUInt64 &&& Int64.toUInt64 63)).toInt64)) &&& 1085102592571150095) + ((((((((p0 - ((((p0 : Int64).toUInt64 >>> ((1 : Int32).toInt64.toUInt64 &&& Int64.toUInt64 63)).toInt64) &&& 6148914691236517205)) &&& 3689348814741910323) + (((((p0 - ((((p0 : Int64).toUInt64 >>> ((1 : Int32).toInt64.toUInt64 &&& Int64.toUInt64 63)).toInt64) &&& 6148914691236517205)) : Int64).toUInt64 >>> ((2 : Int32).toInt64.toUInt64 &&& Int64.toUInt64 63)).toInt64) &&& 3689348814741910323)) + ((((((p0 - ((((p0 : Int64).toUInt64 >>> ((1 : Int32).toInt64.toUInt64 &&& Int64.toUInt64 63)).toInt64) &&& 6148914691236517205)) &&& 3689348814741910323) + (((((p0 - ((((p0 : Int64).toUInt64 >>> ((1 : Int32).toInt64.toUInt64 &&& Int64.toUInt64 63)).toInt64) &&& 6148914691236517205)) : Int64).toUInt64 >>> ((2 : Int32).toInt64.toUInt64 &&& Int64.toUInt64 63)).toInt64) &&& 3689348814741910323)) : Int64).toUInt64 >>> ((4 : Int32).toInt64.toUInt64 &&& Int64.toUInt64 63)).toInt64)) &&& 1085102592571150095) : Int64).toUInt64 >>> ((8 : Int32).toInt64.toUInt64 &&& Int64.toUInt64 63)).toInt64)))]) hx hb dJ13_bitCount_95d88_40 rfl hl (by decide) rfl (fun ls hl => ?_)
  refine lv_lload_n hx hb dJ13_bitCount_95d88_41 rfl (lv_at hl 0 rfl) ?_
  refine lv_lload_n hx hb dJ13_bitCount_95d88_42 rfl (lv_at hl 0 rfl) ?_
  refine lv_bipush (v := 16) hx hb dJ13_bitCount_95d88_43 (by decide) ?_
  refine lv_lushr (v := ((((((((p0 - ((((p0 : Int64).toUInt64 >>> ((1 : Int32).toInt64.toUInt64 &&& Int64.toUInt64 63)).toInt64) &&& 6148914691236517205)) &&& 3689348814741910323) + (((((p0 - ((((p0 : Int64).toUInt64 >>> ((1 : Int32).toInt64.toUInt64 &&& Int64.toUInt64 63)).toInt64) &&& 6148914691236517205)) : Int64).toUInt64 >>> ((2 : Int32).toInt64.toUInt64 &&& Int64.toUInt64 63)).toInt64) &&& 3689348814741910323)) + ((((((p0 - ((((p0 : Int64).toUInt64 >>> ((1 : Int32).toInt64.toUInt64 &&& Int64.toUInt64 63)).toInt64) &&& 6148914691236517205)) &&& 3689348814741910323) + (((((p0 - ((((p0 : Int64).toUInt64 >>> ((1 : Int32).toInt64.toUInt64 &&& Int64.toUInt64 63)).toInt64) &&& 6148914691236517205)) : Int64).toUInt64 >>> ((2 : Int32).toInt64.toUInt64 &&& Int64.toUInt64 63)).toInt64) &&& 3689348814741910323)) : Int64).toUInt64 >>> ((4 : Int32).toInt64.toUInt64 &&& Int64.toUInt64 63)).toInt64)) &&& 1085102592571150095) + ((((((((p0 - ((((p0 : Int64).toUInt64 >>> ((1 : Int32).toInt64.toUInt64 &&& Int64.toUInt64 63)).toInt64) &&& 6148914691236517205)) &&& 3689348814741910323) + (((((p0 - ((((p0 : Int64).toUInt64 >>> ((1 : Int32).toInt64.toUInt64 &&& Int64.toUInt64 63)).toInt64) &&& 6148914691236517205)) : Int64).toUInt64 >>> ((2 : Int32).toInt64.toUInt64 &&& Int64.toUInt64 63)).toInt64) &&& 3689348814741910323)) + ((((((p0 - ((((p0 : Int64).toUInt64 >>> ((1 : Int32).toInt64.toUInt64 &&& Int64.toUInt64 63)).toInt64) &&& 6148914691236517205)) &&& 3689348814741910323) + (((((p0 - ((((p0 : Int64).toUInt64 >>> ((1 : Int32).toInt64.toUInt64 &&& Int64.toUInt64 63)).toInt64) &&& 6148914691236517205)) : Int64).toUInt64 >>> ((2 : Int32).toInt64.toUInt64 &&& Int64.toUInt64 63)).toInt64) &&& 3689348814741910323)) : Int64).toUInt64 >>> ((4 : Int32).toInt64.toUInt64 &&& Int64.toUInt64 63)).toInt64)) &&& 1085102592571150095) : Int64).toUInt64 >>> ((8 : Int32).toInt64.toUInt64 &&& Int64.toUInt64 63)).toInt64)) : Int64).toUInt64 >>> ((16 : Int32).toInt64.toUInt64 &&& Int64.toUInt64 63)).toInt64) hx hb dJ13_bitCount_95d88_45 rfl ?_
  refine lv_ladd hx hb dJ13_bitCount_95d88_46 ?_
  refine lv_lstore_n (lv' := [(0, .long (((((((p0 - ((((p0 : Int64).toUInt64 >>> ((1 : Int32).toInt64.toUInt64 &&& Int64.toUInt64 63)).toInt64) &&& 6148914691236517205)) &&& 3689348814741910323) + (((((p0 - ((((p0 : Int64).toUInt64 >>> ((1 : Int32).toInt64.toUInt64 &&& Int64.toUInt64 63)).toInt64) &&& 6148914691236517205)) : Int64).toUInt64 >>> ((2 : Int32).toInt64.toUInt64 &&& Int64.toUInt64 63)).toInt64) &&& 3689348814741910323)) + ((((((p0 - ((((p0 : Int64).toUInt64 >>> ((1 : Int32).toInt64.toUInt64 &&& Int64.toUInt64 63)).toInt64) &&& 6148914691236517205)) &&& 3689348814741910323) + (((((p0 - ((((p0 : Int64).toUInt64 >>> ((1 : Int32).toInt64.toUInt64 &&& Int64.toUInt64 63)).toInt64) &&& 6148914691236517205)) : Int64).toUInt64 >>> ((2 : Int32).toInt64.toUInt64 &&& Int64.toUInt64 63)).toInt64) &&& 3689348814741910323)) : Int64).toUInt64 >>> ((4 : Int32).toInt64.toUInt64 &&& Int64.toUInt64 63)).toInt64)) &&& 1085102592571150095) + ((((((((p0 - ((((p0 : Int64).toUInt64 >>> ((1 : Int32).toInt64.toUInt64 &&& Int64.toUInt64 63)).toInt64) &&& 6148914691236517205)) &&& 3689348814741910323) + (((((p0 - ((((p0 : Int64).toUInt64 >>> ((1 : Int32).toInt64.toUInt64 &&& Int64.toUInt64 63)).toInt64) &&& 6148914691236517205)) : Int64).toUInt64 >>> ((2 : Int32).toInt64.toUInt64 &&& Int64.toUInt64 63)).toInt64) &&& 3689348814741910323)) + ((((((p0 - ((((p0 : Int64).toUInt64 >>> ((1 : Int32).toInt64.toUInt64 &&& Int64.toUInt64 63)).toInt64) &&& 6148914691236517205)) &&& 3689348814741910323) + (((((p0 - ((((p0 : Int64).toUInt64 >>> ((1 : Int32).toInt64.toUInt64 &&& Int64.toUInt64 63)).toInt64) &&& 6148914691236517205)) : Int64).toUInt64 >>> ((2 : Int32).toInt64.toUInt64 &&& Int64.toUInt64 63)).toInt64) &&& 3689348814741910323)) : Int64).toUInt64 >>> ((4 : Int32).toInt64.toUInt64 &&& Int64.toUInt64 63)).toInt64)) &&& 1085102592571150095) : Int64).toUInt64 >>> ((8 : Int32).toInt64.toUInt64 &&& Int64.toUInt64 63)).toInt64)) + (((((((((p0 - ((((p0 : Int64).toUInt64 >>> ((1 : Int32).toInt64.toUInt64 &&& Int64.toUInt64 63)).toInt64) &&& 6148914691236517205)) &&& 3689348814741910323) + (((((p0 - ((((p0 : Int64).toUInt64 >>> ((1 : Int32).toInt64.toUInt64 &&& Int64.toUInt64 63)).toInt64) &&& 6148914691236517205)) : Int64).toUInt64 >>> ((2 : Int32).toInt64.toUInt64 &&& Int64.toUInt64 63)).toInt64) &&& 3689348814741910323)) + ((((((p0 - ((((p0 : Int64).toUInt64 >>> ((1 : Int32).toInt64.toUInt64 &&& Int64.toUInt64 63)).toInt64) &&& 6148914691236517205)) &&& 3689348814741910323) + (((((p0 - ((((p0 : Int64).toUInt64 >>> ((1 : Int32).toInt64.toUInt64 &&& Int64.toUInt64 63)).toInt64) &&& 6148914691236517205)) : Int64).toUInt64 >>> ((2 : Int32).toInt64.toUInt64 &&& Int64.toUInt64 63)).toInt64) &&& 3689348814741910323)) : Int64).toUInt64 >>> ((4 : Int32).toInt64.toUInt64 &&& Int64.toUInt64 63)).toInt64)) &&& 1085102592571150095) + ((((((((p0 - ((((p0 : Int64).toUInt64 >>> ((1 : Int32).toInt64.toUInt64 &&& Int64.toUInt64 63)).toInt64) &&& 6148914691236517205)) &&& 3689348814741910323) + (((((p0 - ((((p0 : Int64).toUInt64 >>> ((1 : Int32).toInt64.toUInt64 &&& Int64.toUInt64 63)).toInt64) &&& 6148914691236517205)) : Int64).toUInt64 >>> ((2 : Int32).toInt64.toUInt64 &&& Int64.toUInt64 63)).toInt64) &&& 3689348814741910323)) + ((((((p0 - ((((p0 : Int64).toUInt64 >>> ((1 : Int32).toInt64.toUInt64 &&& Int64.toUInt64 63)).toInt64) &&& 6148914691236517205)) &&& 3689348814741910323) + (((((p0 - ((((p0 : Int64).toUInt64 >>> ((1 : Int32).toInt64.toUInt64 &&& Int64.toUInt64 63)).toInt64) &&& 6148914691236517205)) : Int64).toUInt64 >>> ((2 : Int32).toInt64.toUInt64 &&& Int64.toUInt64 63)).toInt64) &&& 3689348814741910323)) : Int64).toUInt64 >>> ((4 : Int32).toInt64.toUInt64 &&& Int64.toUInt64 63)).toInt64)) &&& 1085102592571150095) : Int64).toUInt64 >>> ((8 : Int32).toInt64.toUInt64 &&& Int64.toUInt64 63)).toInt64)) : Int64).toUInt64 >>> ((16 : Int32).toInt64.toUInt64 &&& Int64.toUInt64 63)).toInt64)))]) hx hb dJ13_bitCount_95d88_47 rfl hl (by decide) rfl (fun ls hl => ?_)
  refine lv_lload_n hx hb dJ13_bitCount_95d88_48 rfl (lv_at hl 0 rfl) ?_
  refine lv_lload_n hx hb dJ13_bitCount_95d88_49 rfl (lv_at hl 0 rfl) ?_
  refine lv_bipush (v := 32) hx hb dJ13_bitCount_95d88_50 (by decide) ?_
  refine lv_lushr (v := (((((((((p0 - ((((p0 : Int64).toUInt64 >>> ((1 : Int32).toInt64.toUInt64 &&& Int64.toUInt64 63)).toInt64) &&& 6148914691236517205)) &&& 3689348814741910323) + (((((p0 - ((((p0 : Int64).toUInt64 >>> ((1 : Int32).toInt64.toUInt64 &&& Int64.toUInt64 63)).toInt64) &&& 6148914691236517205)) : Int64).toUInt64 >>> ((2 : Int32).toInt64.toUInt64 &&& Int64.toUInt64 63)).toInt64) &&& 3689348814741910323)) + ((((((p0 - ((((p0 : Int64).toUInt64 >>> ((1 : Int32).toInt64.toUInt64 &&& Int64.toUInt64 63)).toInt64) &&& 6148914691236517205)) &&& 3689348814741910323) + (((((p0 - ((((p0 : Int64).toUInt64 >>> ((1 : Int32).toInt64.toUInt64 &&& Int64.toUInt64 63)).toInt64) &&& 6148914691236517205)) : Int64).toUInt64 >>> ((2 : Int32).toInt64.toUInt64 &&& Int64.toUInt64 63)).toInt64) &&& 3689348814741910323)) : Int64).toUInt64 >>> ((4 : Int32).toInt64.toUInt64 &&& Int64.toUInt64 63)).toInt64)) &&& 1085102592571150095) + ((((((((p0 - ((((p0 : Int64).toUInt64 >>> ((1 : Int32).toInt64.toUInt64 &&& Int64.toUInt64 63)).toInt64) &&& 6148914691236517205)) &&& 3689348814741910323) + (((((p0 - ((((p0 : Int64).toUInt64 >>> ((1 : Int32).toInt64.toUInt64 &&& Int64.toUInt64 63)).toInt64) &&& 6148914691236517205)) : Int64).toUInt64 >>> ((2 : Int32).toInt64.toUInt64 &&& Int64.toUInt64 63)).toInt64) &&& 3689348814741910323)) + ((((((p0 - ((((p0 : Int64).toUInt64 >>> ((1 : Int32).toInt64.toUInt64 &&& Int64.toUInt64 63)).toInt64) &&& 6148914691236517205)) &&& 3689348814741910323) + (((((p0 - ((((p0 : Int64).toUInt64 >>> ((1 : Int32).toInt64.toUInt64 &&& Int64.toUInt64 63)).toInt64) &&& 6148914691236517205)) : Int64).toUInt64 >>> ((2 : Int32).toInt64.toUInt64 &&& Int64.toUInt64 63)).toInt64) &&& 3689348814741910323)) : Int64).toUInt64 >>> ((4 : Int32).toInt64.toUInt64 &&& Int64.toUInt64 63)).toInt64)) &&& 1085102592571150095) : Int64).toUInt64 >>> ((8 : Int32).toInt64.toUInt64 &&& Int64.toUInt64 63)).toInt64)) + (((((((((p0 - ((((p0 : Int64).toUInt64 >>> ((1 : Int32).toInt64.toUInt64 &&& Int64.toUInt64 63)).toInt64) &&& 6148914691236517205)) &&& 3689348814741910323) + (((((p0 - ((((p0 : Int64).toUInt64 >>> ((1 : Int32).toInt64.toUInt64 &&& Int64.toUInt64 63)).toInt64) &&& 6148914691236517205)) : Int64).toUInt64 >>> ((2 : Int32).toInt64.toUInt64 &&& Int64.toUInt64 63)).toInt64) &&& 3689348814741910323)) + ((((((p0 - ((((p0 : Int64).toUInt64 >>> ((1 : Int32).toInt64.toUInt64 &&& Int64.toUInt64 63)).toInt64) &&& 6148914691236517205)) &&& 3689348814741910323) + (((((p0 - ((((p0 : Int64).toUInt64 >>> ((1 : Int32).toInt64.toUInt64 &&& Int64.toUInt64 63)).toInt64) &&& 6148914691236517205)) : Int64).toUInt64 >>> ((2 : Int32).toInt64.toUInt64 &&& Int64.toUInt64 63)).toInt64) &&& 3689348814741910323)) : Int64).toUInt64 >>> ((4 : Int32).toInt64.toUInt64 &&& Int64.toUInt64 63)).toInt64)) &&& 1085102592571150095) + ((((((((p0 - ((((p0 : Int64).toUInt64 >>> ((1 : Int32).toInt64.toUInt64 &&& Int64.toUInt64 63)).toInt64) &&& 6148914691236517205)) &&& 3689348814741910323) + (((((p0 - ((((p0 : Int64).toUInt64 >>> ((1 : Int32).toInt64.toUInt64 &&& Int64.toUInt64 63)).toInt64) &&& 6148914691236517205)) : Int64).toUInt64 >>> ((2 : Int32).toInt64.toUInt64 &&& Int64.toUInt64 63)).toInt64) &&& 3689348814741910323)) + ((((((p0 - ((((p0 : Int64).toUInt64 >>> ((1 : Int32).toInt64.toUInt64 &&& Int64.toUInt64 63)).toInt64) &&& 6148914691236517205)) &&& 3689348814741910323) + (((((p0 - ((((p0 : Int64).toUInt64 >>> ((1 : Int32).toInt64.toUInt64 &&& Int64.toUInt64 63)).toInt64) &&& 6148914691236517205)) : Int64).toUInt64 >>> ((2 : Int32).toInt64.toUInt64 &&& Int64.toUInt64 63)).toInt64) &&& 3689348814741910323)) : Int64).toUInt64 >>> ((4 : Int32).toInt64.toUInt64 &&& Int64.toUInt64 63)).toInt64)) &&& 1085102592571150095) : Int64).toUInt64 >>> ((8 : Int32).toInt64.toUInt64 &&& Int64.toUInt64 63)).toInt64)) : Int64).toUInt64 >>> ((16 : Int32).toInt64.toUInt64 &&& Int64.toUInt64 63)).toInt64)) : Int64).toUInt64 >>> ((32 : Int32).toInt64.toUInt64 &&& Int64.toUInt64 63)).toInt64) hx hb dJ13_bitCount_95d88_52 rfl ?_
  refine lv_ladd hx hb dJ13_bitCount_95d88_53 ?_
  refine lv_lstore_n (lv' := [(0, .long ((((((((p0 - ((((p0 : Int64).toUInt64 >>> ((1 : Int32).toInt64.toUInt64 &&& Int64.toUInt64 63)).toInt64) &&& 6148914691236517205)) &&& 3689348814741910323) + (((((p0 - ((((p0 : Int64).toUInt64 >>> ((1 : Int32).toInt64.toUInt64 &&& Int64.toUInt64 63)).toInt64) &&& 6148914691236517205)) : Int64).toUInt64 >>> ((2 : Int32).toInt64.toUInt64 &&& Int64.toUInt64 63)).toInt64) &&& 3689348814741910323)) + ((((((p0 - ((((p0 : Int64).toUInt64 >>> ((1 : Int32).toInt64.toUInt64 &&& Int64.toUInt64 63)).toInt64) &&& 6148914691236517205)) &&& 3689348814741910323) + (((((p0 - ((((p0 : Int64).toUInt64 >>> ((1 : Int32).toInt64.toUInt64 &&& Int64.toUInt64 63)).toInt64) &&& 6148914691236517205)) : Int64).toUInt64 >>> ((2 : Int32).toInt64.toUInt64 &&& Int64.toUInt64 63)).toInt64) &&& 3689348814741910323)) : Int64).toUInt64 >>> ((4 : Int32).toInt64.toUInt64 &&& Int64.toUInt64 63)).toInt64)) &&& 1085102592571150095) + ((((((((p0 - ((((p0 : Int64).toUInt64 >>> ((1 : Int32).toInt64.toUInt64 &&& Int64.toUInt64 63)).toInt64) &&& 6148914691236517205)) &&& 3689348814741910323) + (((((p0 - ((((p0 : Int64).toUInt64 >>> ((1 : Int32).toInt64.toUInt64 &&& Int64.toUInt64 63)).toInt64) &&& 6148914691236517205)) : Int64).toUInt64 >>> ((2 : Int32).toInt64.toUInt64 &&& Int64.toUInt64 63)).toInt64) &&& 3689348814741910323)) + ((((((p0 - ((((p0 : Int64).toUInt64 >>> ((1 : Int32).toInt64.toUInt64 &&& Int64.toUInt64 63)).toInt64) &&& 6148914691236517205)) &&& 3689348814741910323) + (((((p0 - ((((p0 : Int64).toUInt64 >>> ((1 : Int32).toInt64.toUInt64 &&& Int64.toUInt64 63)).toInt64) &&& 6148914691236517205)) : Int64).toUInt64 >>> ((2 : Int32).toInt64.toUInt64 &&& Int64.toUInt64 63)).toInt64) &&& 3689348814741910323)) : Int64).toUInt64 >>> ((4 : Int32).toInt64.toUInt64 &&& Int64.toUInt64 63)).toInt64)) &&& 1085102592571150095) : Int64).toUInt64 >>> ((8 : Int32).toInt64.toUInt64 &&& Int64.toUInt64 63)).toInt64)) + (((((((((p0 - ((((p0 : Int64).toUInt64 >>> ((1 : Int32).toInt64.toUInt64 &&& Int64.toUInt64 63)).toInt64) &&& 6148914691236517205)) &&& 3689348814741910323) + (((((p0 - ((((p0 : Int64).toUInt64 >>> ((1 : Int32).toInt64.toUInt64 &&& Int64.toUInt64 63)).toInt64) &&& 6148914691236517205)) : Int64).toUInt64 >>> ((2 : Int32).toInt64.toUInt64 &&& Int64.toUInt64 63)).toInt64) &&& 3689348814741910323)) + ((((((p0 - ((((p0 : Int64).toUInt64 >>> ((1 : Int32).toInt64.toUInt64 &&& Int64.toUInt64 63)).toInt64) &&& 6148914691236517205)) &&& 3689348814741910323) + (((((p0 - ((((p0 : Int64).toUInt64 >>> ((1 : Int32).toInt64.toUInt64 &&& Int64.toUInt64 63)).toInt64) &&& 6148914691236517205)) : Int64).toUInt64 >>> ((2 : Int32).toInt64.toUInt64 &&& Int64.toUInt64 63)).toInt64) &&& 3689348814741910323)) : Int64).toUInt64 >>> ((4 : Int32).toInt64.toUInt64 &&& Int64.toUInt64 63)).toInt64)) &&& 1085102592571150095) + ((((((((p0 - ((((p0 : Int64).toUInt64 >>> ((1 : Int32).toInt64.toUInt64 &&& Int64.toUInt64 63)).toInt64) &&& 6148914691236517205)) &&& 3689348814741910323) + (((((p0 - ((((p0 : Int64).toUInt64 >>> ((1 : Int32).toInt64.toUInt64 &&& Int64.toUInt64 63)).toInt64) &&& 6148914691236517205)) : Int64).toUInt64 >>> ((2 : Int32).toInt64.toUInt64 &&& Int64.toUInt64 63)).toInt64) &&& 3689348814741910323)) + ((((((p0 - ((((p0 : Int64).toUInt64 >>> ((1 : Int32).toInt64.toUInt64 &&& Int64.toUInt64 63)).toInt64) &&& 6148914691236517205)) &&& 3689348814741910323) + (((((p0 - ((((p0 : Int64).toUInt64 >>> ((1 : Int32).toInt64.toUInt64 &&& Int64.toUInt64 63)).toInt64) &&& 6148914691236517205)) : Int64).toUInt64 >>> ((2 : Int32).toInt64.toUInt64 &&& Int64.toUInt64 63)).toInt64) &&& 3689348814741910323)) : Int64).toUInt64 >>> ((4 : Int32).toInt64.toUInt64 &&& Int64.toUInt64 63)).toInt64)) &&& 1085102592571150095) : Int64).toUInt64 >>> ((8 : Int32).toInt64.toUInt64 &&& Int64.toUInt64 63)).toInt64)) : Int64).toUInt64 >>> ((16 : Int32).toInt64.toUInt64 &&& Int64.toUInt64 63)).toInt64)) + ((((((((((p0 - ((((p0 : Int64).toUInt64 >>> ((1 : Int32).toInt64.toUInt64 &&& Int64.toUInt64 63)).toInt64) &&& 6148914691236517205)) &&& 3689348814741910323) + (((((p0 - ((((p0 : Int64).toUInt64 >>> ((1 : Int32).toInt64.toUInt64 &&& Int64.toUInt64 63)).toInt64) &&& 6148914691236517205)) : Int64).toUInt64 >>> ((2 : Int32).toInt64.toUInt64 &&& Int64.toUInt64 63)).toInt64) &&& 3689348814741910323)) + ((((((p0 - ((((p0 : Int64).toUInt64 >>> ((1 : Int32).toInt64.toUInt64 &&& Int64.toUInt64 63)).toInt64) &&& 6148914691236517205)) &&& 3689348814741910323) + (((((p0 - ((((p0 : Int64).toUInt64 >>> ((1 : Int32).toInt64.toUInt64 &&& Int64.toUInt64 63)).toInt64) &&& 6148914691236517205)) : Int64).toUInt64 >>> ((2 : Int32).toInt64.toUInt64 &&& Int64.toUInt64 63)).toInt64) &&& 3689348814741910323)) : Int64).toUInt64 >>> ((4 : Int32).toInt64.toUInt64 &&& Int64.toUInt64 63)).toInt64)) &&& 1085102592571150095) + ((((((((p0 - ((((p0 : Int64).toUInt64 >>> ((1 : Int32).toInt64.toUInt64 &&& Int64.toUInt64 63)).toInt64) &&& 6148914691236517205)) &&& 3689348814741910323) + (((((p0 - ((((p0 : Int64).toUInt64 >>> ((1 : Int32).toInt64.toUInt64 &&& Int64.toUInt64 63)).toInt64) &&& 6148914691236517205)) : Int64).toUInt64 >>> ((2 : Int32).toInt64.toUInt64 &&& Int64.toUInt64 63)).toInt64) &&& 3689348814741910323)) + ((((((p0 - ((((p0 : Int64).toUInt64 >>> ((1 : Int32).toInt64.toUInt64 &&& Int64.toUInt64 63)).toInt64) &&& 6148914691236517205)) &&& 3689348814741910323) + (((((p0 - ((((p0 : Int64).toUInt64 >>> ((1 : Int32).toInt64.toUInt64 &&& Int64.toUInt64 63)).toInt64) &&& 6148914691236517205)) : Int64).toUInt64 >>> ((2 : Int32).toInt64.toUInt64 &&& Int64.toUInt64 63)).toInt64) &&& 3689348814741910323)) : Int64).toUInt64 >>> ((4 : Int32).toInt64.toUInt64 &&& Int64.toUInt64 63)).toInt64)) &&& 1085102592571150095) : Int64).toUInt64 >>> ((8 : Int32).toInt64.toUInt64 &&& Int64.toUInt64 63)).toInt64)) + (((((((((p0 - ((((p0 : Int64).toUInt64 >>> ((1 : Int32).toInt64.toUInt64 &&& Int64.toUInt64 63)).toInt64) &&& 6148914691236517205)) &&& 3689348814741910323) + (((((p0 - ((((p0 : Int64).toUInt64 >>> ((1 : Int32).toInt64.toUInt64 &&& Int64.toUInt64 63)).toInt64) &&& 6148914691236517205)) : Int64).toUInt64 >>> ((2 : Int32).toInt64.toUInt64 &&& Int64.toUInt64 63)).toInt64) &&& 3689348814741910323)) + ((((((p0 - ((((p0 : Int64).toUInt64 >>> ((1 : Int32).toInt64.toUInt64 &&& Int64.toUInt64 63)).toInt64) &&& 6148914691236517205)) &&& 3689348814741910323) + (((((p0 - ((((p0 : Int64).toUInt64 >>> ((1 : Int32).toInt64.toUInt64 &&& Int64.toUInt64 63)).toInt64) &&& 6148914691236517205)) : Int64).toUInt64 >>> ((2 : Int32).toInt64.toUInt64 &&& Int64.toUInt64 63)).toInt64) &&& 3689348814741910323)) : Int64).toUInt64 >>> ((4 : Int32).toInt64.toUInt64 &&& Int64.toUInt64 63)).toInt64)) &&& 1085102592571150095) + ((((((((p0 - ((((p0 : Int64).toUInt64 >>> ((1 : Int32).toInt64.toUInt64 &&& Int64.toUInt64 63)).toInt64) &&& 6148914691236517205)) &&& 3689348814741910323) + (((((p0 - ((((p0 : Int64).toUInt64 >>> ((1 : Int32).toInt64.toUInt64 &&& Int64.toUInt64 63)).toInt64) &&& 6148914691236517205)) : Int64).toUInt64 >>> ((2 : Int32).toInt64.toUInt64 &&& Int64.toUInt64 63)).toInt64) &&& 3689348814741910323)) + ((((((p0 - ((((p0 : Int64).toUInt64 >>> ((1 : Int32).toInt64.toUInt64 &&& Int64.toUInt64 63)).toInt64) &&& 6148914691236517205)) &&& 3689348814741910323) + (((((p0 - ((((p0 : Int64).toUInt64 >>> ((1 : Int32).toInt64.toUInt64 &&& Int64.toUInt64 63)).toInt64) &&& 6148914691236517205)) : Int64).toUInt64 >>> ((2 : Int32).toInt64.toUInt64 &&& Int64.toUInt64 63)).toInt64) &&& 3689348814741910323)) : Int64).toUInt64 >>> ((4 : Int32).toInt64.toUInt64 &&& Int64.toUInt64 63)).toInt64)) &&& 1085102592571150095) : Int64).toUInt64 >>> ((8 : Int32).toInt64.toUInt64 &&& Int64.toUInt64 63)).toInt64)) : Int64).toUInt64 >>> ((16 : Int32).toInt64.toUInt64 &&& Int64.toUInt64 63)).toInt64)) : Int64).toUInt64 >>> ((32 : Int32).toInt64.toUInt64 &&& Int64.toUInt64 63)).toInt64)))]) hx hb dJ13_bitCount_95d88_54 rfl hl (by decide) rfl (fun ls hl => ?_)
  refine lv_lload_n hx hb dJ13_bitCount_95d88_55 rfl (lv_at hl 0 rfl) ?_
  refine lv_l2i (v := ((((((((p0 - ((((p0 : Int64).toUInt64 >>> ((1 : Int32).toInt64.toUInt64 &&& Int64.toUInt64 63)).toInt64) &&& 6148914691236517205)) &&& 3689348814741910323) + (((((p0 - ((((p0 : Int64).toUInt64 >>> ((1 : Int32).toInt64.toUInt64 &&& Int64.toUInt64 63)).toInt64) &&& 6148914691236517205)) : Int64).toUInt64 >>> ((2 : Int32).toInt64.toUInt64 &&& Int64.toUInt64 63)).toInt64) &&& 3689348814741910323)) + ((((((p0 - ((((p0 : Int64).toUInt64 >>> ((1 : Int32).toInt64.toUInt64 &&& Int64.toUInt64 63)).toInt64) &&& 6148914691236517205)) &&& 3689348814741910323) + (((((p0 - ((((p0 : Int64).toUInt64 >>> ((1 : Int32).toInt64.toUInt64 &&& Int64.toUInt64 63)).toInt64) &&& 6148914691236517205)) : Int64).toUInt64 >>> ((2 : Int32).toInt64.toUInt64 &&& Int64.toUInt64 63)).toInt64) &&& 3689348814741910323)) : Int64).toUInt64 >>> ((4 : Int32).toInt64.toUInt64 &&& Int64.toUInt64 63)).toInt64)) &&& 1085102592571150095) + ((((((((p0 - ((((p0 : Int64).toUInt64 >>> ((1 : Int32).toInt64.toUInt64 &&& Int64.toUInt64 63)).toInt64) &&& 6148914691236517205)) &&& 3689348814741910323) + (((((p0 - ((((p0 : Int64).toUInt64 >>> ((1 : Int32).toInt64.toUInt64 &&& Int64.toUInt64 63)).toInt64) &&& 6148914691236517205)) : Int64).toUInt64 >>> ((2 : Int32).toInt64.toUInt64 &&& Int64.toUInt64 63)).toInt64) &&& 3689348814741910323)) + ((((((p0 - ((((p0 : Int64).toUInt64 >>> ((1 : Int32).toInt64.toUInt64 &&& Int64.toUInt64 63)).toInt64) &&& 6148914691236517205)) &&& 3689348814741910323) + (((((p0 - ((((p0 : Int64).toUInt64 >>> ((1 : Int32).toInt64.toUInt64 &&& Int64.toUInt64 63)).toInt64) &&& 6148914691236517205)) : Int64).toUInt64 >>> ((2 : Int32).toInt64.toUInt64 &&& Int64.toUInt64 63)).toInt64) &&& 3689348814741910323)) : Int64).toUInt64 >>> ((4 : Int32).toInt64.toUInt64 &&& Int64.toUInt64 63)).toInt64)) &&& 1085102592571150095) : Int64).toUInt64 >>> ((8 : Int32).toInt64.toUInt64 &&& Int64.toUInt64 63)).toInt64)) + (((((((((p0 - ((((p0 : Int64).toUInt64 >>> ((1 : Int32).toInt64.toUInt64 &&& Int64.toUInt64 63)).toInt64) &&& 6148914691236517205)) &&& 3689348814741910323) + (((((p0 - ((((p0 : Int64).toUInt64 >>> ((1 : Int32).toInt64.toUInt64 &&& Int64.toUInt64 63)).toInt64) &&& 6148914691236517205)) : Int64).toUInt64 >>> ((2 : Int32).toInt64.toUInt64 &&& Int64.toUInt64 63)).toInt64) &&& 3689348814741910323)) + ((((((p0 - ((((p0 : Int64).toUInt64 >>> ((1 : Int32).toInt64.toUInt64 &&& Int64.toUInt64 63)).toInt64) &&& 6148914691236517205)) &&& 3689348814741910323) + (((((p0 - ((((p0 : Int64).toUInt64 >>> ((1 : Int32).toInt64.toUInt64 &&& Int64.toUInt64 63)).toInt64) &&& 6148914691236517205)) : Int64).toUInt64 >>> ((2 : Int32).toInt64.toUInt64 &&& Int64.toUInt64 63)).toInt64) &&& 3689348814741910323)) : Int64).toUInt64 >>> ((4 : Int32).toInt64.toUInt64 &&& Int64.toUInt64 63)).toInt64)) &&& 1085102592571150095) + ((((((((p0 - ((((p0 : Int64).toUInt64 >>> ((1 : Int32).toInt64.toUInt64 &&& Int64.toUInt64 63)).toInt64) &&& 6148914691236517205)) &&& 3689348814741910323) + (((((p0 - ((((p0 : Int64).toUInt64 >>> ((1 : Int32).toInt64.toUInt64 &&& Int64.toUInt64 63)).toInt64) &&& 6148914691236517205)) : Int64).toUInt64 >>> ((2 : Int32).toInt64.toUInt64 &&& Int64.toUInt64 63)).toInt64) &&& 3689348814741910323)) + ((((((p0 - ((((p0 : Int64).toUInt64 >>> ((1 : Int32).toInt64.toUInt64 &&& Int64.toUInt64 63)).toInt64) &&& 6148914691236517205)) &&& 3689348814741910323) + (((((p0 - ((((p0 : Int64).toUInt64 >>> ((1 : Int32).toInt64.toUInt64 &&& Int64.toUInt64 63)).toInt64) &&& 6148914691236517205)) : Int64).toUInt64 >>> ((2 : Int32).toInt64.toUInt64 &&& Int64.toUInt64 63)).toInt64) &&& 3689348814741910323)) : Int64).toUInt64 >>> ((4 : Int32).toInt64.toUInt64 &&& Int64.toUInt64 63)).toInt64)) &&& 1085102592571150095) : Int64).toUInt64 >>> ((8 : Int32).toInt64.toUInt64 &&& Int64.toUInt64 63)).toInt64)) : Int64).toUInt64 >>> ((16 : Int32).toInt64.toUInt64 &&& Int64.toUInt64 63)).toInt64)) + ((((((((((p0 - ((((p0 : Int64).toUInt64 >>> ((1 : Int32).toInt64.toUInt64 &&& Int64.toUInt64 63)).toInt64) &&& 6148914691236517205)) &&& 3689348814741910323) + (((((p0 - ((((p0 : Int64).toUInt64 >>> ((1 : Int32).toInt64.toUInt64 &&& Int64.toUInt64 63)).toInt64) &&& 6148914691236517205)) : Int64).toUInt64 >>> ((2 : Int32).toInt64.toUInt64 &&& Int64.toUInt64 63)).toInt64) &&& 3689348814741910323)) + ((((((p0 - ((((p0 : Int64).toUInt64 >>> ((1 : Int32).toInt64.toUInt64 &&& Int64.toUInt64 63)).toInt64) &&& 6148914691236517205)) &&& 3689348814741910323) + (((((p0 - ((((p0 : Int64).toUInt64 >>> ((1 : Int32).toInt64.toUInt64 &&& Int64.toUInt64 63)).toInt64) &&& 6148914691236517205)) : Int64).toUInt64 >>> ((2 : Int32).toInt64.toUInt64 &&& Int64.toUInt64 63)).toInt64) &&& 3689348814741910323)) : Int64).toUInt64 >>> ((4 : Int32).toInt64.toUInt64 &&& Int64.toUInt64 63)).toInt64)) &&& 1085102592571150095) + ((((((((p0 - ((((p0 : Int64).toUInt64 >>> ((1 : Int32).toInt64.toUInt64 &&& Int64.toUInt64 63)).toInt64) &&& 6148914691236517205)) &&& 3689348814741910323) + (((((p0 - ((((p0 : Int64).toUInt64 >>> ((1 : Int32).toInt64.toUInt64 &&& Int64.toUInt64 63)).toInt64) &&& 6148914691236517205)) : Int64).toUInt64 >>> ((2 : Int32).toInt64.toUInt64 &&& Int64.toUInt64 63)).toInt64) &&& 3689348814741910323)) + ((((((p0 - ((((p0 : Int64).toUInt64 >>> ((1 : Int32).toInt64.toUInt64 &&& Int64.toUInt64 63)).toInt64) &&& 6148914691236517205)) &&& 3689348814741910323) + (((((p0 - ((((p0 : Int64).toUInt64 >>> ((1 : Int32).toInt64.toUInt64 &&& Int64.toUInt64 63)).toInt64) &&& 6148914691236517205)) : Int64).toUInt64 >>> ((2 : Int32).toInt64.toUInt64 &&& Int64.toUInt64 63)).toInt64) &&& 3689348814741910323)) : Int64).toUInt64 >>> ((4 : Int32).toInt64.toUInt64 &&& Int64.toUInt64 63)).toInt64)) &&& 1085102592571150095) : Int64).toUInt64 >>> ((8 : Int32).toInt64.toUInt64 &&& Int64.toUInt64 63)).toInt64)) + (((((((((p0 - ((((p0 : Int64).toUInt64 >>> ((1 : Int32).toInt64.toUInt64 &&& Int64.toUInt64 63)).toInt64) &&& 6148914691236517205)) &&& 3689348814741910323) + (((((p0 - ((((p0 : Int64).toUInt64 >>> ((1 : Int32).toInt64.toUInt64 &&& Int64.toUInt64 63)).toInt64) &&& 6148914691236517205)) : Int64).toUInt64 >>> ((2 : Int32).toInt64.toUInt64 &&& Int64.toUInt64 63)).toInt64) &&& 3689348814741910323)) + ((((((p0 - ((((p0 : Int64).toUInt64 >>> ((1 : Int32).toInt64.toUInt64 &&& Int64.toUInt64 63)).toInt64) &&& 6148914691236517205)) &&& 3689348814741910323) + (((((p0 - ((((p0 : Int64).toUInt64 >>> ((1 : Int32).toInt64.toUInt64 &&& Int64.toUInt64 63)).toInt64) &&& 6148914691236517205)) : Int64).toUInt64 >>> ((2 : Int32).toInt64.toUInt64 &&& Int64.toUInt64 63)).toInt64) &&& 3689348814741910323)) : Int64).toUInt64 >>> ((4 : Int32).toInt64.toUInt64 &&& Int64.toUInt64 63)).toInt64)) &&& 1085102592571150095) + ((((((((p0 - ((((p0 : Int64).toUInt64 >>> ((1 : Int32).toInt64.toUInt64 &&& Int64.toUInt64 63)).toInt64) &&& 6148914691236517205)) &&& 3689348814741910323) + (((((p0 - ((((p0 : Int64).toUInt64 >>> ((1 : Int32).toInt64.toUInt64 &&& Int64.toUInt64 63)).toInt64) &&& 6148914691236517205)) : Int64).toUInt64 >>> ((2 : Int32).toInt64.toUInt64 &&& Int64.toUInt64 63)).toInt64) &&& 3689348814741910323)) + ((((((p0 - ((((p0 : Int64).toUInt64 >>> ((1 : Int32).toInt64.toUInt64 &&& Int64.toUInt64 63)).toInt64) &&& 6148914691236517205)) &&& 3689348814741910323) + (((((p0 - ((((p0 : Int64).toUInt64 >>> ((1 : Int32).toInt64.toUInt64 &&& Int64.toUInt64 63)).toInt64) &&& 6148914691236517205)) : Int64).toUInt64 >>> ((2 : Int32).toInt64.toUInt64 &&& Int64.toUInt64 63)).toInt64) &&& 3689348814741910323)) : Int64).toUInt64 >>> ((4 : Int32).toInt64.toUInt64 &&& Int64.toUInt64 63)).toInt64)) &&& 1085102592571150095) : Int64).toUInt64 >>> ((8 : Int32).toInt64.toUInt64 &&& Int64.toUInt64 63)).toInt64)) : Int64).toUInt64 >>> ((16 : Int32).toInt64.toUInt64 &&& Int64.toUInt64 63)).toInt64)) : Int64).toUInt64 >>> ((32 : Int32).toInt64.toUInt64 &&& Int64.toUInt64 63)).toInt64) : Int64).toInt32) hx hb dJ13_bitCount_95d88_56 rfl ?_
  refine lv_bipush (v := 127) hx hb dJ13_bitCount_95d88_57 (by decide) ?_
  refine lv_iand hx hb dJ13_bitCount_95d88_59 ?_
  subst hm
  exact k_iret (v := (((((((((p0 - ((((p0 : Int64).toUInt64 >>> ((1 : Int32).toInt64.toUInt64 &&& Int64.toUInt64 63)).toInt64) &&& 6148914691236517205)) &&& 3689348814741910323) + (((((p0 - ((((p0 : Int64).toUInt64 >>> ((1 : Int32).toInt64.toUInt64 &&& Int64.toUInt64 63)).toInt64) &&& 6148914691236517205)) : Int64).toUInt64 >>> ((2 : Int32).toInt64.toUInt64 &&& Int64.toUInt64 63)).toInt64) &&& 3689348814741910323)) + ((((((p0 - ((((p0 : Int64).toUInt64 >>> ((1 : Int32).toInt64.toUInt64 &&& Int64.toUInt64 63)).toInt64) &&& 6148914691236517205)) &&& 3689348814741910323) + (((((p0 - ((((p0 : Int64).toUInt64 >>> ((1 : Int32).toInt64.toUInt64 &&& Int64.toUInt64 63)).toInt64) &&& 6148914691236517205)) : Int64).toUInt64 >>> ((2 : Int32).toInt64.toUInt64 &&& Int64.toUInt64 63)).toInt64) &&& 3689348814741910323)) : Int64).toUInt64 >>> ((4 : Int32).toInt64.toUInt64 &&& Int64.toUInt64 63)).toInt64)) &&& 1085102592571150095) + ((((((((p0 - ((((p0 : Int64).toUInt64 >>> ((1 : Int32).toInt64.toUInt64 &&& Int64.toUInt64 63)).toInt64) &&& 6148914691236517205)) &&& 3689348814741910323) + (((((p0 - ((((p0 : Int64).toUInt64 >>> ((1 : Int32).toInt64.toUInt64 &&& Int64.toUInt64 63)).toInt64) &&& 6148914691236517205)) : Int64).toUInt64 >>> ((2 : Int32).toInt64.toUInt64 &&& Int64.toUInt64 63)).toInt64) &&& 3689348814741910323)) + ((((((p0 - ((((p0 : Int64).toUInt64 >>> ((1 : Int32).toInt64.toUInt64 &&& Int64.toUInt64 63)).toInt64) &&& 6148914691236517205)) &&& 3689348814741910323) + (((((p0 - ((((p0 : Int64).toUInt64 >>> ((1 : Int32).toInt64.toUInt64 &&& Int64.toUInt64 63)).toInt64) &&& 6148914691236517205)) : Int64).toUInt64 >>> ((2 : Int32).toInt64.toUInt64 &&& Int64.toUInt64 63)).toInt64) &&& 3689348814741910323)) : Int64).toUInt64 >>> ((4 : Int32).toInt64.toUInt64 &&& Int64.toUInt64 63)).toInt64)) &&& 1085102592571150095) : Int64).toUInt64 >>> ((8 : Int32).toInt64.toUInt64 &&& Int64.toUInt64 63)).toInt64)) + (((((((((p0 - ((((p0 : Int64).toUInt64 >>> ((1 : Int32).toInt64.toUInt64 &&& Int64.toUInt64 63)).toInt64) &&& 6148914691236517205)) &&& 3689348814741910323) + (((((p0 - ((((p0 : Int64).toUInt64 >>> ((1 : Int32).toInt64.toUInt64 &&& Int64.toUInt64 63)).toInt64) &&& 6148914691236517205)) : Int64).toUInt64 >>> ((2 : Int32).toInt64.toUInt64 &&& Int64.toUInt64 63)).toInt64) &&& 3689348814741910323)) + ((((((p0 - ((((p0 : Int64).toUInt64 >>> ((1 : Int32).toInt64.toUInt64 &&& Int64.toUInt64 63)).toInt64) &&& 6148914691236517205)) &&& 3689348814741910323) + (((((p0 - ((((p0 : Int64).toUInt64 >>> ((1 : Int32).toInt64.toUInt64 &&& Int64.toUInt64 63)).toInt64) &&& 6148914691236517205)) : Int64).toUInt64 >>> ((2 : Int32).toInt64.toUInt64 &&& Int64.toUInt64 63)).toInt64) &&& 3689348814741910323)) : Int64).toUInt64 >>> ((4 : Int32).toInt64.toUInt64 &&& Int64.toUInt64 63)).toInt64)) &&& 1085102592571150095) + ((((((((p0 - ((((p0 : Int64).toUInt64 >>> ((1 : Int32).toInt64.toUInt64 &&& Int64.toUInt64 63)).toInt64) &&& 6148914691236517205)) &&& 3689348814741910323) + (((((p0 - ((((p0 : Int64).toUInt64 >>> ((1 : Int32).toInt64.toUInt64 &&& Int64.toUInt64 63)).toInt64) &&& 6148914691236517205)) : Int64).toUInt64 >>> ((2 : Int32).toInt64.toUInt64 &&& Int64.toUInt64 63)).toInt64) &&& 3689348814741910323)) + ((((((p0 - ((((p0 : Int64).toUInt64 >>> ((1 : Int32).toInt64.toUInt64 &&& Int64.toUInt64 63)).toInt64) &&& 6148914691236517205)) &&& 3689348814741910323) + (((((p0 - ((((p0 : Int64).toUInt64 >>> ((1 : Int32).toInt64.toUInt64 &&& Int64.toUInt64 63)).toInt64) &&& 6148914691236517205)) : Int64).toUInt64 >>> ((2 : Int32).toInt64.toUInt64 &&& Int64.toUInt64 63)).toInt64) &&& 3689348814741910323)) : Int64).toUInt64 >>> ((4 : Int32).toInt64.toUInt64 &&& Int64.toUInt64 63)).toInt64)) &&& 1085102592571150095) : Int64).toUInt64 >>> ((8 : Int32).toInt64.toUInt64 &&& Int64.toUInt64 63)).toInt64)) : Int64).toUInt64 >>> ((16 : Int32).toInt64.toUInt64 &&& Int64.toUInt64 63)).toInt64)) + ((((((((((p0 - ((((p0 : Int64).toUInt64 >>> ((1 : Int32).toInt64.toUInt64 &&& Int64.toUInt64 63)).toInt64) &&& 6148914691236517205)) &&& 3689348814741910323) + (((((p0 - ((((p0 : Int64).toUInt64 >>> ((1 : Int32).toInt64.toUInt64 &&& Int64.toUInt64 63)).toInt64) &&& 6148914691236517205)) : Int64).toUInt64 >>> ((2 : Int32).toInt64.toUInt64 &&& Int64.toUInt64 63)).toInt64) &&& 3689348814741910323)) + ((((((p0 - ((((p0 : Int64).toUInt64 >>> ((1 : Int32).toInt64.toUInt64 &&& Int64.toUInt64 63)).toInt64) &&& 6148914691236517205)) &&& 3689348814741910323) + (((((p0 - ((((p0 : Int64).toUInt64 >>> ((1 : Int32).toInt64.toUInt64 &&& Int64.toUInt64 63)).toInt64) &&& 6148914691236517205)) : Int64).toUInt64 >>> ((2 : Int32).toInt64.toUInt64 &&& Int64.toUInt64 63)).toInt64) &&& 3689348814741910323)) : Int64).toUInt64 >>> ((4 : Int32).toInt64.toUInt64 &&& Int64.toUInt64 63)).toInt64)) &&& 1085102592571150095) + ((((((((p0 - ((((p0 : Int64).toUInt64 >>> ((1 : Int32).toInt64.toUInt64 &&& Int64.toUInt64 63)).toInt64) &&& 6148914691236517205)) &&& 3689348814741910323) + (((((p0 - ((((p0 : Int64).toUInt64 >>> ((1 : Int32).toInt64.toUInt64 &&& Int64.toUInt64 63)).toInt64) &&& 6148914691236517205)) : Int64).toUInt64 >>> ((2 : Int32).toInt64.toUInt64 &&& Int64.toUInt64 63)).toInt64) &&& 3689348814741910323)) + ((((((p0 - ((((p0 : Int64).toUInt64 >>> ((1 : Int32).toInt64.toUInt64 &&& Int64.toUInt64 63)).toInt64) &&& 6148914691236517205)) &&& 3689348814741910323) + (((((p0 - ((((p0 : Int64).toUInt64 >>> ((1 : Int32).toInt64.toUInt64 &&& Int64.toUInt64 63)).toInt64) &&& 6148914691236517205)) : Int64).toUInt64 >>> ((2 : Int32).toInt64.toUInt64 &&& Int64.toUInt64 63)).toInt64) &&& 3689348814741910323)) : Int64).toUInt64 >>> ((4 : Int32).toInt64.toUInt64 &&& Int64.toUInt64 63)).toInt64)) &&& 1085102592571150095) : Int64).toUInt64 >>> ((8 : Int32).toInt64.toUInt64 &&& Int64.toUInt64 63)).toInt64)) + (((((((((p0 - ((((p0 : Int64).toUInt64 >>> ((1 : Int32).toInt64.toUInt64 &&& Int64.toUInt64 63)).toInt64) &&& 6148914691236517205)) &&& 3689348814741910323) + (((((p0 - ((((p0 : Int64).toUInt64 >>> ((1 : Int32).toInt64.toUInt64 &&& Int64.toUInt64 63)).toInt64) &&& 6148914691236517205)) : Int64).toUInt64 >>> ((2 : Int32).toInt64.toUInt64 &&& Int64.toUInt64 63)).toInt64) &&& 3689348814741910323)) + ((((((p0 - ((((p0 : Int64).toUInt64 >>> ((1 : Int32).toInt64.toUInt64 &&& Int64.toUInt64 63)).toInt64) &&& 6148914691236517205)) &&& 3689348814741910323) + (((((p0 - ((((p0 : Int64).toUInt64 >>> ((1 : Int32).toInt64.toUInt64 &&& Int64.toUInt64 63)).toInt64) &&& 6148914691236517205)) : Int64).toUInt64 >>> ((2 : Int32).toInt64.toUInt64 &&& Int64.toUInt64 63)).toInt64) &&& 3689348814741910323)) : Int64).toUInt64 >>> ((4 : Int32).toInt64.toUInt64 &&& Int64.toUInt64 63)).toInt64)) &&& 1085102592571150095) + ((((((((p0 - ((((p0 : Int64).toUInt64 >>> ((1 : Int32).toInt64.toUInt64 &&& Int64.toUInt64 63)).toInt64) &&& 6148914691236517205)) &&& 3689348814741910323) + (((((p0 - ((((p0 : Int64).toUInt64 >>> ((1 : Int32).toInt64.toUInt64 &&& Int64.toUInt64 63)).toInt64) &&& 6148914691236517205)) : Int64).toUInt64 >>> ((2 : Int32).toInt64.toUInt64 &&& Int64.toUInt64 63)).toInt64) &&& 3689348814741910323)) + ((((((p0 - ((((p0 : Int64).toUInt64 >>> ((1 : Int32).toInt64.toUInt64 &&& Int64.toUInt64 63)).toInt64) &&& 6148914691236517205)) &&& 3689348814741910323) + (((((p0 - ((((p0 : Int64).toUInt64 >>> ((1 : Int32).toInt64.toUInt64 &&& Int64.toUInt64 63)).toInt64) &&& 6148914691236517205)) : Int64).toUInt64 >>> ((2 : Int32).toInt64.toUInt64 &&& Int64.toUInt64 63)).toInt64) &&& 3689348814741910323)) : Int64).toUInt64 >>> ((4 : Int32).toInt64.toUInt64 &&& Int64.toUInt64 63)).toInt64)) &&& 1085102592571150095) : Int64).toUInt64 >>> ((8 : Int32).toInt64.toUInt64 &&& Int64.toUInt64 63)).toInt64)) : Int64).toUInt64 >>> ((16 : Int32).toInt64.toUInt64 &&& Int64.toUInt64 63)).toInt64)) : Int64).toUInt64 >>> ((32 : Int32).toInt64.toUInt64 &&& Int64.toUInt64 63)).toInt64) : Int64).toInt32) &&& 127) X rfl dJ13_bitCount_95d88_60 hP hD hS
theorem hd_J13_bitCount_95d88 : yJ13_bitCount_95d88.cls ≠ "java/lang/invoke/MethodHandle" ∧ yJ13_bitCount_95d88.cls ≠ "java/lang/invoke/VarHandle" ∧ (parseMethodDescriptor yJ13_bitCount_95d88.desc).map (fun d => d.parameters.length) = some 1 := by decide +kernel
