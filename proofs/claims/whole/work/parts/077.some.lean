/-! the edges from one knot, some of them -/
def tg (E : List (Nat × Nat)) (a : Nat) : List Nat := ((ePr E).filter (fun p => decide (p / 10 = a))).map (· % 10)
theorem fil_i {P : Nat → Bool} {x : Nat} : ∀ (l : List Nat) (j : Nat), (l.filter P)[j]? = some x ↔ ∃ i, l[i]? = some x ∧ P x = true ∧ (l.take i).countP P = j
  | [], j => ⟨fun h => by simp at h, fun ⟨i, h, _⟩ => by simp at h⟩
  | y :: l, j => by
    by_cases hy : P y = true
    · rw [List.filter_cons_of_pos hy]
      cases j with
      | zero =>
        constructor
        · intro h
          have : y = x := by simpa using h
          subst this
          exact ⟨0, rfl, hy, rfl⟩
        · rintro ⟨i, h1, h2, h3⟩
          cases i with
          | zero => simpa using h1
          | succ i => rw [List.take_succ_cons, List.countP_cons_of_pos hy] at h3; omega
      | succ j =>
        rw [List.getElem?_cons_succ, fil_i l j]
        constructor
        · rintro ⟨i, h1, h2, h3⟩
          exact ⟨i + 1, h1, h2, by rw [List.take_succ_cons, List.countP_cons_of_pos hy, h3]⟩
        · rintro ⟨i, h1, h2, h3⟩
          cases i with
          | zero => simp at h3
          | succ i =>
            rw [List.take_succ_cons, List.countP_cons_of_pos hy] at h3
            exact ⟨i, h1, h2, by omega⟩
    · rw [List.filter_cons_of_neg hy, fil_i l j]
      constructor
      · rintro ⟨i, h1, h2, h3⟩
        exact ⟨i + 1, h1, h2, by rw [List.take_succ_cons, List.countP_cons_of_neg hy, h3]⟩
      · rintro ⟨i, h1, h2, h3⟩
        cases i with
        | zero =>
          have : y = x := by simpa using h1
          subst this
          exact absurd h2 hy
        | succ i =>
          rw [List.take_succ_cons, List.countP_cons_of_neg hy] at h3
          exact ⟨i, h1, h2, h3⟩
section TG
variable {E : List (Nat × Nat)} {a : Nat}
theorem ePr_ok (hE : okE E) {p : Nat} (hp : p ∈ ePr E) : p < 80 ∧ p % 10 < 8 ∧ p / 10 ≠ p % 10 := by
  obtain ⟨e, he, rfl⟩ := List.mem_map.mp hp
  exact (hE.2.1 e he).2
theorem tg_mem (hE : okE E) {t : Nat} : t ∈ tg E a ↔ t < 8 ∧ 10 * a + t ∈ ePr E := by
  unfold tg
  rw [List.mem_map]
  constructor
  · rintro ⟨p, hp, rfl⟩
    rw [List.mem_filter, decide_eq_true_eq] at hp
    have := ePr_ok hE hp.1
    refine ⟨this.2.1, ?_⟩
    have e : 10 * a + p % 10 = p := by omega
    rw [e]; exact hp.1
  · rintro ⟨h8, hp⟩
    exact ⟨10 * a + t, List.mem_filter.mpr ⟨hp, decide_eq_true (by omega)⟩, by omega⟩
theorem tg_8 (hE : okE E) {t : Nat} (h : t ∈ tg E a) : t < 8 := ((tg_mem hE).mp h).1
theorem tg_nd (hE : okE E) : (tg E a).Nodup := by
  unfold tg
  have h1 : ((ePr E).filter (fun p => decide (p / 10 = a))).Nodup := List.Nodup.sublist List.filter_sublist hE.2.2
  rw [List.nodup_iff_pairwise_ne, List.pairwise_map]
  rw [List.nodup_iff_pairwise_ne] at h1
  refine h1.imp_of_mem fun {x y} hx hy hne => ?_
  rw [List.mem_filter, decide_eq_true_eq] at hx hy
  have := ePr_ok hE hx.1
  have := ePr_ok hE hy.1
  exact fun q => hne (by omega)
theorem tg_no (hE : okE E) : a ∉ tg E a := fun h => by
  have h2 := (tg_mem hE).mp h
  have := ePr_ok hE h2.2
  omega
theorem tg_len (hE : okE E) (ha : a < 8) : (tg E a).length ≤ 7 := by
  have := nodup8 (l := a :: tg E a) (List.nodup_cons.mpr ⟨tg_no hE, tg_nd hE⟩) (fun x hx => by
    rcases List.mem_cons.mp hx with rfl | h
    · exact ha
    · exact tg_8 hE h)
  rw [List.length_cons] at this; omega
theorem tg_i {t j : Nat} (hE : okE E) : (tg E a)[j]? = some t ↔ ∃ i, (ePr E)[i]? = some (10 * a + t) ∧ t < 8 ∧ ((ePr E).take i).countP (fun p => decide (p / 10 = a)) = j := by
  unfold tg
  rw [List.getElem?_map]
  constructor
  · intro h
    cases hp : ((ePr E).filter (fun p => decide (p / 10 = a)))[j]? with
    | none => rw [hp] at h; cases h
    | some p =>
      rw [hp] at h
      have ht : p % 10 = t := Option.some.inj h
      obtain ⟨i, h1, h2, h3⟩ := (fil_i _ _).mp hp
      rw [decide_eq_true_eq] at h2
      have := ePr_ok hE (List.mem_of_getElem? h1)
      have e : p = 10 * a + t := by omega
      subst e
      exact ⟨i, h1, by omega, h3⟩
  · rintro ⟨i, h1, h2, h3⟩
    have : ((ePr E).filter (fun p => decide (p / 10 = a)))[j]? = some (10 * a + t) := (fil_i _ _).mpr ⟨i, h1, decide_eq_true (by omega), h3⟩
    rw [this]
    show some ((10 * a + t) % 10) = some t
    congr 1; omega
theorem tg_cnt (i : Nat) : ((ePr E).take i).countP (fun p => decide (p / 10 = a)) = (E.take i).countP (fun e => decide (e.2 / 10 = a)) := by
  rw [ePr, ← List.map_take, List.countP_map]; rfl
/-- one knot's edges changed to those of a set -/
def subR (P : List Nat) (a : Nat) (s : Int32) (x y : Nat) : Prop := x < 8 ∧ y < 8 ∧ (x = a → bt s y = true) ∧ (x ≠ a → pE P x y)
theorem sub_c {g : Int64} (hg : gE g = pE (ePr E)) (ha : a < 8) {s : Int32} (hs : s8 s) : gE (mX5_withLine g (nI a) s) = subR (ePr E) a s := by
  funext x y
  rw [eq_iff_iff]
  have e0 : ∀ x y, gE g x y ↔ pE (ePr E) x y := fun x y => iff_of_eq (congrFun (congrFun hg x) y)
  unfold gE subR
  constructor
  · rintro ⟨hx, hy, h⟩
    rw [withLine_s g ha hs (by omega)] at h
    refine ⟨hx, hy, fun hxa => ?_, fun hxa => ?_⟩
    · rw [if_pos (by omega), show 8 * x + y - 8 * a = y by omega] at h; exact h
    · rw [if_neg (by omega)] at h; exact (e0 x y).mp ⟨hx, hy, h⟩
  · rintro ⟨hx, hy, h1, h2⟩
    refine ⟨hx, hy, ?_⟩
    rw [withLine_s g ha hs (by omega)]
    by_cases hxa : x = a
    · rw [if_pos (by omega), show 8 * x + y - 8 * a = y by omega]; exact h1 hxa
    · rw [if_neg (by omega)]; exact ((e0 x y).mpr (h2 hxa)).2.2
theorem sub_m (hE : okE E) (ha : a < 8) {m : Nat} (hm : m < 2 ^ 31) : alE E (-9) 0 = alE E (-9) 0 ∧ alE E (nI a) (nI m) = subR (ePr E) a (phi (tg E a) m) := by
  refine ⟨rfl, ?_⟩
  have hle := hE.1
  funext x y
  rw [eq_iff_iff]
  have hfn : (fun e : Nat × Nat => decide (nI (e.2 / 10) = nI a)) = fun e => decide (nI (e.2 / 10) = nI a) := rfl
  have hcount : ∀ i, (E.take i).countP (fun e => decide (nI (e.2 / 10) = nI a)) = ((ePr E).take i).countP (fun p => decide (p / 10 = a)) := by
    intro i
    rw [tg_cnt]
    refine List.countP_congr fun e he => ?_
    have := (hE.2.1 e (List.mem_of_mem_take he)).2.1
    rw [decide_eq_true_eq, decide_eq_true_eq]
    exact nI_eq (by omega) (by omega)
  have hc31 : ∀ i, ((ePr E).take i).countP (fun p => decide (p / 10 = a)) < 32 := by
    intro i
    have h1 : ((ePr E).take i).countP (fun p => decide (p / 10 = a)) ≤ ((ePr E).take i).length := List.countP_le_length
    have h2 : ((ePr E).take i).length ≤ (ePr E).length := by rw [List.length_take]; omega
    have h3 : (ePr E).length = E.length := List.length_map _
    omega
  have get : ∀ {i : Nat} {e : Nat × Nat}, E[i]? = some e → (ePr E)[i]? = some e.2 := fun {i e} h => by rw [ePr, List.getElem?_map, h]; rfl
  unfold alE subR
  constructor
  · rintro ⟨i, e, he, hal, rfl, rfl⟩
    obtain ⟨-, b1, b2, b3⟩ := hE.2.1 e (List.mem_of_getElem? he)
    rw [alw, he] at hal
    dsimp only at hal
    rw [hcount, bt_nI, decide_eq_true (hc31 i), Bool.true_and, Bool.or_eq_true, Bool.not_eq_true', decide_eq_false_iff_not] at hal
    refine ⟨by omega, b2, fun hxa => ?_, fun hxa => ⟨by omega, b2, ?_⟩⟩
    · rcases hal with h | h
      · exact absurd (by rw [hxa]) h
      · rw [phi_b _ _ _ (fun x hx => tg_8 hE hx)]
        refine ⟨_, (tg_i hE).mpr ⟨i, ?_, b2, rfl⟩, h⟩
        rw [get he]; congr 1; omega
    · have e : 10 * (e.2 / 10) + e.2 % 10 = e.2 := by omega
      rw [e]; exact List.mem_of_getElem? (get he)
  · rintro ⟨hx, hy, h1, h2⟩
    by_cases hxa : x = a
    · have h := h1 hxa
      rw [phi_b _ _ _ (fun x hx => tg_8 hE hx)] at h
      obtain ⟨j, hj, hb⟩ := h
      obtain ⟨i, hi, -, hc⟩ := (tg_i hE).mp hj
      rw [ePr, List.getElem?_map] at hi
      cases he : E[i]? with
      | none => rw [he] at hi; cases hi
      | some e =>
        rw [he] at hi
        have hq : e.2 = 10 * a + y := Option.some.inj hi
        refine ⟨i, e, he, ?_, by omega, by omega⟩
        rw [alw, he]
        dsimp only
        rw [hcount, bt_nI, decide_eq_true (hc31 i), Bool.true_and, hc, hb, Bool.or_true]
    · obtain ⟨-, -, hp⟩ := h2 hxa
      obtain ⟨i, hi⟩ := List.getElem?_of_mem hp
      rw [ePr, List.getElem?_map] at hi
      cases he : E[i]? with
      | none => rw [he] at hi; cases hi
      | some e =>
        rw [he] at hi
        have hq : e.2 = 10 * x + y := Option.some.inj hi
        refine ⟨i, e, he, ?_, by omega, by omega⟩
        rw [alw, he]
        dsimp only
        rw [decide_eq_false (fun q => hxa (by have := (nI_eq (show e.2 / 10 < 2 ^ 31 by omega) (show a < 2 ^ 31 by omega)).mp q; omega))]
        rfl
/-- how many are reached, with these edges -/
def cr (g : Int64) (a : Nat) (s : Int32) : Nat := match mX5_reached (mX5_withLine g (nI a) s) 0 with | some r => ct r | none => 0
theorem cr_c (g : Int64) (a : Nat) (s : Int32) : mX1_countReached g (nI a) s = some (nI (cr g a s)) ∧ cr g a s ≤ 8 := by
  obtain ⟨r, e, hr, -⟩ := reached_n (mX5_withLine g (nI a) s) s8_0
  rw [mX1_countReached, cr, e, Option.bind_some]
  exact ⟨by rw [bitCount_n hr], ct_le r⟩
theorem Rch.mono {R R' : Nat → Nat → Prop} {D : Nat → Prop} (h : ∀ x y, R x y → R' x y) {v : Nat} (hv : Rch R D v) : Rch R' D v := fun S h0 hs => hv S h0 fun x y sx e hy => hs x y sx (h x y e) hy
theorem cr_mono {g : Int64} (hg : gE g = pE (ePr E)) (ha : a < 8) {s s' : Int32} (hs : s8 s) (hs' : s8 s') (h : ∀ i, i < 8 → bt s i = true → bt s' i = true) : cr g a s ≤ cr g a s' := by
  obtain ⟨r, e, hr, br⟩ := reached_n (mX5_withLine g (nI a) s) s8_0
  obtain ⟨r', e', hr', br'⟩ := reached_n (mX5_withLine g (nI a) s') s8_0
  rw [cr, cr, e, e']
  refine ct_le_of fun i hi q => (br' i).mpr ?_
  have q' := (br i).mp q
  rw [sub_c hg ha hs] at q'
  rw [sub_c hg ha hs']
  exact q'.mono fun x y ⟨h1, h2, h3, h4⟩ => ⟨h1, h2, fun z => h y h2 (h3 z), h4⟩
theorem phi_s (hE : okE E) (m : Nat) : s8 (phi (tg E a) m) := fun i hi => by
  rw [Bool.eq_false_iff]
  intro q
  obtain ⟨j, hj, -⟩ := (phi_b _ _ _ (fun x hx => tg_8 hE hx)).mp q
  have := tg_8 hE (List.mem_of_getElem? hj)
  omega
theorem cr_m {now : Nat → Int32} {nx : Nat} {g : Int64} (hg : gE g = pE (ePr E)) (hd : mdR now 0 E nx) (hE : okE E) (ha : a < 8) {m : Nat} (hm : m < 2 ^ 31) : ∃ r, mX11_reachedBy now 0 (-9) (nI a) (nI m) = some r ∧ mX11_ones r = some (nI (cr g a (phi (tg E a) m))) := by
  obtain ⟨r, e, hr, br⟩ := mreached_n hd hE (-9) (nI a) (nI m)
  obtain ⟨r', e', hr', br'⟩ := reached_n (mX5_withLine g (nI a) (phi (tg E a) m)) s8_0
  refine ⟨r, e, ?_⟩
  rw [ones_n, cr, e']
  have : r = r' := by
    refine s8_ext hr hr' fun i hi => ?_
    rw [Bool.eq_iff_iff, br i, br' i, (sub_m hE ha hm).2, sub_c hg ha (phi_s hE m)]
    refine Rch.congr8 (fun x y h => h.2.1) (fun y hy => ?_) i
    rw [b_0, i_ne9 (by omega)]
    exact ⟨False.elim, fun q => (by cases q)⟩
  rw [this]
theorem outOf_n {now : Nat → Int32} {nx : Nat} (hd : mdR now 0 E nx) (hE : okE E) (ha : a < 8) : mX11_outOf now 0 (nI a) = some (nI (tg E a).length) := by
  have hle := hE.1
  have key : ∀ (l : List (Nat × Nat)) (k fuel c : Nat), E.drop k = l → k ≤ E.length → l.length < fuel → mX11_outOf_L5 now 0 (nI a) fuel (nI c) (nI k) = some (nI (c + l.countP (fun e => decide (e.2 / 10 = a)))) := by
    intro l
    induction l with
    | nil =>
      intro k fuel c hdr hk hf
      obtain ⟨m, rfl⟩ := fuel_s hf
      have em : mX11_many now 0 = some (nI E.length) := md_many hd
      have := dropN hdr
      rw [mX11_outOf_L5, em, Option.bind_some, if_pos (nI_le_t (by omega) (by omega))]
      rfl
    | cons e l ih =>
      intro k fuel c hdr hk hf
      obtain ⟨m, rfl⟩ := fuel_s hf
      obtain ⟨hk1, he, hd'⟩ := dropC hdr
      have em : mX11_many now 0 = some (nI E.length) := md_many hd
      have ef : mX11_fromOf now 0 (nI k) = some (nI (e.2 / 10)) := md_from hd hE he
      have h80 := (hE.2.1 e (List.mem_of_getElem? he)).2.1
      have hf' : l.length < m := by rw [List.length_cons] at hf; omega
      rw [mX11_outOf_L5, em, Option.bind_some, if_neg (nI_le_f (by omega) (by omega)), ef, Option.bind_some, nI_1, nI_1]
      by_cases hc : e.2 / 10 = a
      · rw [if_pos (by rw [hc]), ih (k + 1) m (c + 1) hd' (by omega) hf', List.countP_cons_of_pos (by exact decide_eq_true hc)]
        congr 2; omega
      · rw [if_neg (fun q => hc ((nI_eq (by omega) (by omega)).mp q)), show nI c + 0 = nI c from Int32.add_zero _, ih (k + 1) m c hd' (by omega) hf', List.countP_cons_of_neg (by rw [decide_eq_true_eq]; exact hc)]
  have e1 : (tg E a).length = E.countP (fun e => decide (e.2 / 10 = a)) := by
    rw [tg, List.length_map, ← List.countP_eq_length_filter, ePr, List.countP_map]; rfl
  have e2 : mX11_outOf_L5 now 0 (nI a) kFU 0 0 = _ := key E 0 kFU 0 rfl (Nat.zero_le _) (kFU_b (by omega))
  rw [mX11_outOf, e2, e1, Nat.zero_add]
end TG
