/-! the grid of the edges, what is reached in it, who covers whom -/
theorem c8_inj {p q : Nat} (hp : p % 10 < 8) (hq : q % 10 < 8) (h : c8 p = c8 q) : p = q := by unfold c8 at h; omega
theorem c8_lt {p : Nat} (hp : p < 80) (h2 : p % 10 < 8) : c8 p < 64 := by unfold c8; omega
section GR
variable {sz : Int32} {f : Nat → Int32} {E : List (Nat × Nat)}
theorem ed_grid (h : edR sz f E) (hE : okE E) : ∃ g, mX3_grid sz f = some g ∧ ∀ i, i < 64 → gb g i = decide (i ∈ (ePr E).map c8) := by
  have key : ∀ (l : List (Nat × Nat)) (k fuel : Nat) (acc : Int64), E.drop k = l → k ≤ E.length → l.length < fuel → (∀ p, p ∈ l.map Prod.snd → gb acc (c8 p) = false) → (l.map Prod.snd).Nodup → ∃ g, mX3_grid_L4 sz f fuel acc (nI k) = some g ∧ ∀ i, i < 64 → gb g i = (gb acc i || decide (i ∈ (l.map Prod.snd).map c8)) := by
    intro l
    induction l with
    | nil =>
      intro k fuel acc hd hke hf _ _
      obtain ⟨m, rfl⟩ := fuel_s hf
      have hk := dropN hd
      have hle := h.le
      refine ⟨acc, ?_, fun i _ => by simp⟩
      rw [mX3_grid_L4, mX6_size, if_pos (by rw [h.len]; exact (nI_leI (by omega) (by omega)).mpr hk)]
    | cons e l ih =>
      intro k fuel acc hd hke hf hno hnd
      obtain ⟨m, rfl⟩ := fuel_s hf
      obtain ⟨h1, h2, h3⟩ := dropC hd
      have hle := h.le
      have hm := hE.2.1 e (List.mem_of_getElem? h2)
      rw [List.map_cons, List.nodup_cons] at hnd
      have ha : e.2 / 10 < 8 := by omega
      have hfl : ∀ i, i < 64 → gb (mX5_flipped acc (nI (e.2 / 10)) (nI (e.2 % 10))) i = (gb acc i ^^ decide (i = c8 e.2)) := fun i hi => flipped_b acc (by omega) hi
      obtain ⟨g, e1, e2⟩ := ih (k + 1) m (mX5_flipped acc (nI (e.2 / 10)) (nI (e.2 % 10))) h3 (by omega) (by simp only [List.length_cons] at hf; omega) (fun p hp => by
        have hpE : ∃ x, x ∈ E ∧ x.2 = p := by
          obtain ⟨x, hx, e⟩ := List.mem_map.mp hp
          exact ⟨x, List.mem_of_mem_drop (i := k + 1) (by rw [h3]; exact hx), e⟩
        obtain ⟨x, hx, rfl⟩ := hpE
        have hx2 := hE.2.1 x hx
        rw [hfl _ (c8_lt hx2.2.1 hx2.2.2.1), hno x.2 (by rw [List.map_cons]; exact List.mem_cons_of_mem _ hp), decide_eq_false, Bool.false_xor]
        intro q
        have := c8_inj hx2.2.2.1 hm.2.2.1 q
        rw [this] at hp
        exact hnd.1 hp) hnd.2
      refine ⟨g, ?_, fun i hi => ?_⟩
      · rw [mX3_grid_L4, mX6_size, if_neg (by rw [h.len]; exact fun q => by have := (nI_leI (by omega) (by omega)).mp q; omega), ed_pair h hE h2, mod10 (p := e.2) (by omega), div10 (p := e.2) (by omega), nI_1]
        exact e1
      · rw [e2 i hi, hfl i hi, List.map_cons, List.map_cons]
        by_cases hie : i = c8 e.2
        · have := hno e.2 (by rw [List.map_cons]; exact List.mem_cons_self)
          subst hie
          rw [this]; simp
        · rw [decide_eq_false hie, Bool.xor_false]
          congr 1
          exact decide_eq_decide.mpr ⟨fun h => List.mem_cons_of_mem _ h, fun h => (List.mem_cons.mp h).resolve_left hie⟩
  have hle := h.le
  obtain ⟨g, e1, e2⟩ := key E 0 kFU 0 rfl (Nat.zero_le _) (kFU_b (by omega)) (fun p _ => gb_0 _) hE.2.2
  refine ⟨g, by rw [mX3_grid]; exact e1, fun i hi => ?_⟩
  rw [e2 i hi, gb_0, Bool.false_or]; rfl
end GR
/-- the relation of edges that a grid holds -/
def gE (g : Int64) (a b : Nat) : Prop := a < 8 ∧ b < 8 ∧ gb g (8 * a + b) = true
/-- the relation of edges of a list of pairs -/
def pE (P : List Nat) (a b : Nat) : Prop := a < 8 ∧ b < 8 ∧ 10 * a + b ∈ P
theorem gE_line {g : Int64} {a : Nat} (ha : a < 8) (b : Nat) : bt (mX5_line g (nI a)) b = true ↔ gE g a b := by
  rw [line_b g ha, Bool.and_eq_true, decide_eq_true_eq]
  exact ⟨fun h => ⟨ha, h.1, h.2⟩, fun h => ⟨h.2.1, h.2.2⟩⟩
theorem ct_or {x y : Int32} (hd : ∀ i, i < 8 → bt x i = true → bt y i = false) : ct (x ||| y) = ct x + ct y := by
  have h : ∀ i, i < 8 → (bt x i || bt y i).toNat = (bt x i).toNat + (bt y i).toNat := by
    intro i hi
    cases hx : bt x i with
    | false => simp
    | true => rw [hd i hi hx]; rfl
  unfold ct
  simp only [b_or]
  rw [h 0 (by omega), h 1 (by omega), h 2 (by omega), h 3 (by omega), h 4 (by omega), h 5 (by omega), h 6 (by omega), h 7 (by omega)]
  omega
theorem del_b (x : Int32) {k : Nat} (hk : k < 8) {i : Nat} (hi : i < 32) : bt (x &&& (mX5_only (nI k) ^^^ (-1))) i = (bt x i && !decide (i = k)) := by
  rw [b_and, b_not _ hi, only_b (by omega)]
theorem ct_del {x : Int32} {k : Nat} (hk : k < 8) (hb : bt x k = true) : ct (x &&& (mX5_only (nI k) ^^^ (-1))) + 1 = ct x := by
  unfold ct
  simp only [del_b x hk (show 0 < 32 by omega), del_b x hk (show 1 < 32 by omega), del_b x hk (show 2 < 32 by omega), del_b x hk (show 3 < 32 by omega), del_b x hk (show 4 < 32 by omega), del_b x hk (show 5 < 32 by omega), del_b x hk (show 6 < 32 by omega), del_b x hk (show 7 < 32 by omega)]
  have hc : k = 0 ∨ k = 1 ∨ k = 2 ∨ k = 3 ∨ k = 4 ∨ k = 5 ∨ k = 6 ∨ k = 7 := by omega
  rcases hc with rfl | rfl | rfl | rfl | rfl | rfl | rfl | rfl <;> simp [hb] <;> omega
theorem ct0 {x : Int32} (hs : s8 x) (h : ct x = 0) : x = 0 := by
  refine (s0_iff hs).mpr ?_
  unfold ct at h
  have hz : ∀ b : Bool, b.toNat = 0 → b = false := fun b => by cases b <;> decide
  intro i hi
  have hc : i = 0 ∨ i = 1 ∨ i = 2 ∨ i = 3 ∨ i = 4 ∨ i = 5 ∨ i = 6 ∨ i = 7 := by omega
  rcases hc with rfl | rfl | rfl | rfl | rfl | rfl | rfl | rfl <;> (apply hz; omega)
/-- reached by a grid, no shut ones touched -/
theorem reached_n (g : Int64) {sh : Int32} (hs : s8 sh) : ∃ r, mX5_reached g sh = some r ∧ s8 r ∧ ∀ v, bt r v = true ↔ Rch (gE g) (fun y => bt sh y = true) v := by
  -- found knots; those open; how many are done
  have fin : ∀ (fd : Int32), s8 fd → (∀ v, bt fd v = true → Rch (gE g) (fun y => bt sh y = true) v) → (¬ bt sh 0 = true → bt fd 0 = true) → (∀ x y, bt fd x = true → gE g x y → ¬ bt sh y = true → bt fd y = true) → s8 fd ∧ ∀ v, bt fd v = true ↔ Rch (gE g) (fun y => bt sh y = true) v := by
    intro fd h1 h2 h3 h4
    exact ⟨h1, fun v => ⟨h2 v, fun h => h (fun v => bt fd v = true) h3 (fun x y hx e hy => h4 x y hx e hy)⟩⟩
  have key : ∀ (j st fuel : Nat) (fd op : Int32), st + j = 8 → j < fuel → s8 fd → s8 op → (∀ v, bt op v = true → bt fd v = true) → (∀ v, bt fd v = true → Rch (gE g) (fun y => bt sh y = true) v) → (¬ bt sh 0 = true → bt fd 0 = true) → (∀ x y, bt fd x = true → ¬ bt op x = true → gE g x y → ¬ bt sh y = true → bt fd y = true) → ct fd = st + ct op → ∃ r, mX5_reached_L15 g sh fuel fd op (nI st) = some r ∧ s8 r ∧ ∀ v, bt r v = true ↔ Rch (gE g) (fun y => bt sh y = true) v := by
    intro j
    induction j with
    | zero =>
      intro st fuel fd op hj hf h1 h2 h3 h4 h5 h6 h7
      obtain ⟨m, rfl⟩ := fuel_s hf
      have hle := ct_le fd
      have h0 : op = 0 := ct0 h2 (by omega)
      refine ⟨fd, ?_, fin fd h1 h4 h5 fun x y hx e hy => h6 x y hx (by rw [h0, b_0]; decide) e hy⟩
      rw [mX5_reached_L15, if_pos (show (8 : Int32) ≤ nI st from (nI_leI (a := 8) (by omega) (by omega)).mpr (by omega))]
    | succ j ih =>
      intro st fuel fd op hj hf h1 h2 h3 h4 h5 h6 h7
      obtain ⟨m, rfl⟩ := fuel_s hf
      rw [mX5_reached_L15, if_neg (show ¬ (8 : Int32) ≤ nI st from fun q => by have := (nI_leI (a := 8) (by omega) (by omega)).mp q; omega)]
      by_cases h0 : op = 0
      · rw [if_pos h0]
        exact ⟨fd, rfl, fin fd h1 h4 h5 fun x y hx e hy => h6 x y hx (by rw [h0, b_0]; decide) e hy⟩
      · rw [if_neg h0]
        obtain ⟨k, hk, ek, hbk⟩ := first_n h2 h0
        rw [ek]
        have hfb : ∀ i, i < 32 → bt ((mX5_line g (nI k) &&& (fd ^^^ (-1))) &&& (sh ^^^ (-1))) i = (bt (mX5_line g (nI k)) i && !bt fd i && !bt sh i) := fun i hi => by rw [b_and, b_and, b_not _ hi, b_not _ hi]
        have hfs : s8 ((mX5_line g (nI k) &&& (fd ^^^ (-1))) &&& (sh ^^^ (-1))) := s8_andl (s8_andl (s8_line g hk) _) _
        generalize hfr : (mX5_line g (nI k) &&& (fd ^^^ (-1))) &&& (sh ^^^ (-1)) = fr at hfb hfs ⊢
        have hfi : ∀ y, bt fr y = true → y < 8 ∧ gE g k y ∧ ¬ bt fd y = true ∧ ¬ bt sh y = true := by
          intro y hy
          have hy8 : y < 8 := by
            rcases Nat.lt_or_ge y 8 with q | q
            · exact q
            · rw [hfs y q] at hy; cases hy
          rw [hfb y (by omega), Bool.and_eq_true, Bool.and_eq_true, Bool.not_eq_true', Bool.not_eq_true'] at hy
          exact ⟨hy8, (gE_line hk y).mp hy.1.1, by rw [hy.1.2]; decide, by rw [hy.2]; decide⟩
        have hop : ∀ i, bt ((op &&& (mX5_only (nI k) ^^^ (-1))) ||| fr) i = ((bt op i && !decide (i = k)) || bt fr i) := by
          intro i
          rcases Nat.lt_or_ge i 32 with q | q
          · rw [b_or, del_b op hk q]
          · rw [b_big q, b_big q, b_big q]; rfl
        rw [nI_1]
        refine ih (st + 1) m _ _ (by omega) (by omega) (s8_or h1 hfs) (s8_or (s8_andl h2 _) hfs) ?_ ?_ ?_ ?_ ?_
        · intro v hv
          rw [hop, Bool.or_eq_true, Bool.and_eq_true] at hv
          rw [b_or, Bool.or_eq_true]
          rcases hv with ⟨q, -⟩ | q
          · exact Or.inl (h3 v q)
          · exact Or.inr q
        · intro v hv
          rw [b_or, Bool.or_eq_true] at hv
          rcases hv with q | q
          · exact h4 v q
          · obtain ⟨-, a, -, b⟩ := hfi v q
            exact (h4 k (h3 k hbk)).step a b
        · intro q
          rw [b_or, h5 q]; rfl
        · intro x y hx hox e hy
          rw [hop, Bool.or_eq_true, Bool.and_eq_true, Bool.not_eq_true', decide_eq_false_iff_not] at hox
          rw [b_or, Bool.or_eq_true] at hx ⊢
          have hxf : bt fd x = true := hx.resolve_right (fun q => hox (Or.inr q))
          by_cases hxk : x = k
          · subst hxk
            by_cases hfy : bt fd y = true
            · exact Or.inl hfy
            · right
              have hy8 := e.2.1
              rw [hfb y (by omega), (gE_line hk y).mpr e, Bool.eq_false_iff.mpr hfy, Bool.eq_false_iff.mpr hy]; rfl
          · exact Or.inl (h6 x y hxf (fun q => hox (Or.inl ⟨q, hxk⟩)) e hy)
        · rw [ct_or (x := fd) (fun i _ q => Bool.eq_false_iff.mpr fun z => (hfi i z).2.2.1 q), ct_or (x := op &&& (mX5_only (nI k) ^^^ (-1))) (fun i hi q => Bool.eq_false_iff.mpr fun z => (hfi i z).2.2.1 (h3 i (by rw [b_and, Bool.and_eq_true] at q; exact q.1)))]
          have := ct_del hk hbk
          omega
  have hst : ∀ i, i < 32 → bt (mX5_only 0 &&& (sh ^^^ (-1))) i = (decide (i = 0) && !bt sh i) := fun i hi => by rw [b_and, b_not _ hi, show (0 : Int32) = nI 0 from rfl, only_b (by omega)]
  have h8 : s8 (mX5_only 0 &&& (sh ^^^ (-1))) := s8_andl (s8_only (k := 0) (by omega)) _
  rw [mX5_reached, show (0 : Int32) = nI 0 from rfl]
  generalize hgen : mX5_only (nI 0) &&& (sh ^^^ (-1)) = st0 at *
  have hbit : ∀ v, bt st0 v = true → v = 0 ∧ ¬ bt sh 0 = true := by
    intro v hv
    have hv8 : v < 8 := by
      rcases Nat.lt_or_ge v 8 with q | q
      · exact q
      · rw [show st0 = mX5_only 0 &&& (sh ^^^ (-1)) from hgen.symm, h8 v q] at hv; cases hv
    rw [show st0 = mX5_only 0 &&& (sh ^^^ (-1)) from hgen.symm, hst v (by omega), Bool.and_eq_true, decide_eq_true_eq, Bool.not_eq_true'] at hv
    obtain ⟨rfl, q⟩ := hv
    exact ⟨rfl, by rw [q]; decide⟩
  refine key 8 0 kFU st0 st0 rfl (kFU_b (by omega)) (by rw [← hgen]; exact h8) (by rw [← hgen]; exact h8) (fun _ h => h) ?_ ?_ ?_ (by omega)
  · intro v hv
    obtain ⟨rfl, q⟩ := hbit v hv
    exact Rch.root q
  · intro q
    rw [show st0 = mX5_only 0 &&& (sh ^^^ (-1)) from hgen.symm, hst 0 (by omega), Bool.eq_false_iff.mpr q]; rfl
  · intro x y hx hox
    exact absurd hx hox
