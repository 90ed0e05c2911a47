/-! missing: both sides alike -/
/-- the lids seen: knot, lid, 1 for had -/
def okS (S : List (Nat × Nat × Nat)) : Prop := S.length ≤ 6 ∧ ∀ e, e ∈ S → e.1 < 8 ∧ e.2.1 < 8 ∧ e.2.2 ≤ 1
def encS (e : Nat × Nat × Nat) : Int32 := nI (100 * e.2.2 + 10 * e.1 + e.2.1)
def seR (sz : Int32) (f : Nat → Int32) (S : List (Nat × Nat × Nat)) : Prop := rowR 6 sz f (S.map encS)
def msR (ks : Int32) (sk sl sh : Nat → Int32) (S : List (Nat × Nat × Nat)) : Prop := ks = nI S.length ∧ ∀ i e, S[i]? = some e → sk i = nI e.1 ∧ sl i = nI e.2.1 ∧ sh i = nI e.2.2
def asE (l : Nat → Int32) (e : Nat × Nat × Nat) : Bool := decide (decide (l e.1 = nI e.2.1) = decide (e.2.2 = 1))
section MS
variable {S : List (Nat × Nat × Nat)}
theorem all_c {sz : Int32} {f : Nat → Int32} (h : seR sz f S) (hS : okS S) {cvr : Int64} {l : Nat → Int32} (hl : ∀ k, k < 8 → mX2_lidOf cvr (nI k) = some (l k)) : mX10_isAllSeenIn sz f cvr = some (S.all (asE l)) := by
  have hlen : sz = nI S.length := by have := h.1; rwa [List.length_map] at this
  have h6 := hS.1
  have key : ∀ (t : List (Nat × Nat × Nat)) (k fuel : Nat), S.drop k = t → k ≤ S.length → t.length < fuel → mX10_isAllSeenIn_L2 sz f cvr fuel (nI k) = some (t.all (asE l)) := by
    intro t
    induction t with
    | nil =>
      intro k fuel hd hk hf
      obtain ⟨m, rfl⟩ := fuel_s hf
      have := dropN hd
      rw [mX10_isAllSeenIn_L2, mX6_size, hlen, if_pos ((nI_leI (by omega) (by omega)).mpr (by omega))]
      rfl
    | cons e t ih =>
      intro k fuel hd hk hf
      obtain ⟨m, rfl⟩ := fuel_s hf
      obtain ⟨hk1, he, hd'⟩ := dropC hd
      have hf' : t.length < m := by rw [List.length_cons] at hf; omega
      obtain ⟨b1, b2, b3⟩ := hS.2 e (List.mem_of_getElem? he)
      have hat : mX6_at 6 sz f (nI k) = nI (100 * e.2.2 + 10 * e.1 + e.2.1) := by
        rw [at_n h (by omega), List.getD_eq_getElem?_getD, List.getElem?_map, he]; rfl
      have d100 : nI (100 * e.2.2 + 10 * e.1 + e.2.1) / 100 = nI e.2.2 := by
        rw [show nI (100 * e.2.2 + 10 * e.1 + e.2.1) / 100 = nI ((100 * e.2.2 + 10 * e.1 + e.2.1) / 100) from pk_div (d := 100) (by omega) (by omega) (by omega), show (100 * e.2.2 + 10 * e.1 + e.2.1) / 100 = e.2.2 from by omega]
      have d10 : nI (100 * e.2.2 + 10 * e.1 + e.2.1) / 10 = nI (10 * e.2.2 + e.1) := by
        rw [div10 (by omega), show (100 * e.2.2 + 10 * e.1 + e.2.1) / 10 = 10 * e.2.2 + e.1 from by omega]
      have m10a : nI (100 * e.2.2 + 10 * e.1 + e.2.1) - nI (100 * e.2.2 + 10 * e.1 + e.2.1) / 10 * 10 = nI e.2.1 := by
        rw [mod10 (by omega), show (100 * e.2.2 + 10 * e.1 + e.2.1) % 10 = e.2.1 from by omega]
      have m10b : nI (10 * e.2.2 + e.1) - nI (10 * e.2.2 + e.1) / 10 * 10 = nI e.1 := by
        rw [mod10 (by omega), show (10 * e.2.2 + e.1) % 10 = e.1 from by omega]
      have fin : ∀ a b : Bool, mX10_isAllSeenIn_J60 (mX10_isAllSeenIn_L2 sz f cvr m) (nI k) a b = some (decide (b = a) && t.all (asE l)) := by
        intro a b
        rw [mX10_isAllSeenIn_J60]
        by_cases hab : b = a
        · rw [if_pos ((bI_eq _ _).mpr hab), decide_eq_true hab, Bool.true_and, nI_1]
          exact ih (k + 1) m hd' (by omega) hf'
        · rw [if_neg (fun z => hab ((bI_eq _ _).mp z)), decide_eq_false hab]; rfl
      have hj : ∀ a : Bool, mX10_isAllSeenIn_J35 (mX10_isAllSeenIn_L2 sz f cvr m) sz f cvr (nI k) a = some (decide (decide (l e.1 = nI e.2.1) = a) && t.all (asE l)) := by
        intro a
        rw [mX10_isAllSeenIn_J35, hat, m10a, d10, m10b, hl e.1 b1, Option.bind_some]
        by_cases hc : l e.1 = nI e.2.1
        · rw [if_pos hc, fin, decide_eq_true hc]
        · rw [if_neg hc, fin, decide_eq_false hc]
      rw [mX10_isAllSeenIn_L2, mX6_size, if_neg (by rw [hlen]; exact fun q => by have := (nI_leI (by omega) (by omega)).mp q; omega), hat, d100, List.all_cons]
      by_cases hh : e.2.2 = 1
      · rw [if_pos (by rw [hh]; rfl), hj, asE, decide_eq_true hh]
      · rw [if_neg (show ¬ nI e.2.2 = 1 from fun q => hh ((nI_eq (b := 1) (by omega) (by omega)).mp q)), hj, asE, decide_eq_false hh]
  rw [mX10_isAllSeenIn]
  exact key S 0 kFU rfl (Nat.zero_le _) (kFU_b (by omega))
theorem all_m {ks : Int32} {sk sl sh : Nat → Int32} (h : msR ks sk sl sh S) (hS : okS S) {rch : Int32} {cov nw : Nat → Int32} {l : Nat → Int32} (hl : ∀ k, k < 8 → mX11_lidOf rch cov (nI k) = some (l k)) : mX11_mayBe_L21 ks sk sl sh nw (rch, cov) kFU true 0 = some (S.all (asE l), rch, nw, cov) := by
  have h6 := hS.1
  have key : ∀ (t : List (Nat × Nat × Nat)) (k fuel : Nat) (so : Bool), S.drop k = t → k ≤ S.length → t.length < fuel → mX11_mayBe_L21 ks sk sl sh nw (rch, cov) fuel so (nI k) = some (so && t.all (asE l), rch, nw, cov) := by
    intro t
    induction t with
    | nil =>
      intro k fuel so hd hk hf
      obtain ⟨m, rfl⟩ := fuel_s hf
      have := dropN hd
      rw [mX11_mayBe_L21, h.1, if_pos ((nI_leI (by omega) (by omega)).mpr (by omega))]
      simp
    | cons e t ih =>
      intro k fuel so hd hk hf
      obtain ⟨m, rfl⟩ := fuel_s hf
      obtain ⟨hk1, he, hd'⟩ := dropC hd
      have hf' : t.length < m := by rw [List.length_cons] at hf; omega
      obtain ⟨b1, b2, b3⟩ := hS.2 e (List.mem_of_getElem? he)
      obtain ⟨c1, c2, c3⟩ := h.2 k e he
      rw [mX11_mayBe_L21, if_neg (by rw [h.1]; exact fun q => by have := (nI_leI (by omega) (by omega)).mp q; omega)]
      cases so with
      | false =>
        rw [if_neg Bool.false_ne_true, nI_1, ih (k + 1) m false hd' (by omega) hf']; rfl
      | true =>
        have fin : ∀ a b : Bool, mX11_mayBe_J76 (mX11_mayBe_L21 ks sk sl sh nw (rch, cov) m) (nI k) a b = some (decide (a = b) && t.all (asE l), rch, nw, cov) := by
          intro a b
          rw [mX11_mayBe_J76]
          by_cases hab : a = b
          · rw [if_pos ((bI_eq _ _).mpr hab), decide_eq_true hab, nI_1]
            exact ih (k + 1) m true hd' (by omega) hf'
          · rw [if_neg (fun z => hab ((bI_eq _ _).mp z)), decide_eq_false hab, nI_1]
            exact ih (k + 1) m false hd' (by omega) hf'
        have hj : ∀ a : Bool, mX11_mayBe_J60 (mX11_mayBe_L21 ks sk sl sh nw (rch, cov) m) sh (nI k) a = some (decide (a = decide (e.2.2 = 1)) && t.all (asE l), rch, nw, cov) := by
          intro a
          rw [mX11_mayBe_J60, gd_n (by omega) (by omega), i_cl (a := k) (by omega), c3]
          by_cases hh : e.2.2 = 1
          · rw [if_pos (by rw [hh]; rfl), fin, decide_eq_true hh]
          · rw [if_neg (show ¬ nI e.2.2 = 1 from fun q => hh ((nI_eq (b := 1) (by omega) (by omega)).mp q)), fin, decide_eq_false hh]
        rw [if_pos rfl, gd_n (by omega) (by omega), i_cl (a := k) (by omega), c1]
        dsimp only
        rw [hl e.1 b1, Option.bind_some, gd_n (by omega) (by omega), c2, Bool.true_and, List.all_cons, asE]
        by_cases hc : l e.1 = nI e.2.1
        · rw [if_pos hc, hj, decide_eq_true hc]
        · rw [if_neg hc, hj, decide_eq_false hc]
  have := key S 0 kFU true rfl (Nat.zero_le _) (kFU_b (by omega))
  rw [Bool.true_and] at this
  exact this
end MS
/-- the fold over pairs -/
def spc (G : Nat → Bool) : Nat → Nat → Int32 × Int32 → Int32 × Int32
  | 0, _, st => st
  | j + 1, v, st => spc G j (v + 1) (if G v = true then (st.1 + 1, if st.1 = 0 then nI v else st.2) else st)
theorem spc_add (G : Nat → Bool) : ∀ (i j v : Nat) (st : Int32 × Int32), spc G (i + j) v st = spc G j (v + i) (spc G i v st)
  | 0, j, v, st => by rw [Nat.zero_add]; rfl
  | i + 1, j, v, st => by
    rw [show i + 1 + j = (i + j) + 1 from by omega]
    show spc G (i + j) (v + 1) _ = spc G j (v + (i + 1)) (spc G i (v + 1) _)
    rw [spc_add G i j (v + 1), show v + 1 + i = v + (i + 1) from by omega]
theorem spc_none (G : Nat → Bool) : ∀ (j v : Nat) (st : Int32 × Int32), (∀ w, v ≤ w → w < v + j → G w = false) → spc G j v st = st
  | 0, v, st, _ => rfl
  | j + 1, v, st, h => by
    show spc G j (v + 1) _ = st
    rw [if_neg (by rw [h v (Nat.le_refl _) (by omega)]; decide)]
    exact spc_none G j (v + 1) st fun w h1 h2 => h w (by omega) (by omega)
section MI
variable {sz : Int32} {f : Nat → Int32} {E : List (Nat × Nat)} {S : List (Nat × Nat × Nat)} {nx n : Nat} {ssz ks : Int32} {sf sk sl sh : Nat → Int32}
theorem try_n (h : edR sz f E) (hE : okE E) (hnx : nx < 1000000) (hs : seR ssz sf S) (hm : msR ks sk sl sh S) (hS : okS S) (hl : E.length < 24) {a b : Nat} (ha : a < 8) (hb : b < 8) : ∃ r : Bool, (∀ (t1 t2 t3 : Int64) (t4 : Int32), ∃ t1' t2' t3' t4', mX10_mayBeMissing sz f ssz sf t1 t2 t3 t4 (nI a) (nI b) = some (r, t1', t2', t3', t4')) ∧ (a = b ∨ 10 * a + b ∈ ePr E → r = false) ∧ (a ≠ b → 10 * a + b ∉ ePr E → ∀ (k0 : Int32) (cv now : Nat → Int32), mdR now 0 E nx → ∃ k0' cv' now', mX11_mayBe k0 ks now cv sk sl sh (nI a) (nI b) = some (r, k0', now', cv') ∧ mdR now' 0 E nx) := by
  by_cases hab : a = b
  · refine ⟨false, fun t1 t2 t3 t4 => ⟨t1, t2, t3, t4, ?_⟩, fun _ => rfl, fun q => absurd hab q⟩
    rw [mX10_mayBeMissing, if_pos (by rw [hab])]
  · have hne : ¬ nI a = nI b := fun q => hab ((nI_eq (by omega) (by omega)).mp q)
    by_cases hp : 10 * a + b ∈ ePr E
    · refine ⟨false, fun t1 t2 t3 t4 => ⟨t1, t2, t3, t4, ?_⟩, fun _ => rfl, fun _ q => absurd hp q⟩
      rw [mX10_mayBeMissing, if_neg hne, ed_has h hE ha hb, Option.bind_some, if_pos (decide_eq_true hp)]
    · obtain ⟨g, eg, bg⟩ := ed_grid h hE
      have hE' := ok_fl hE (s := nx) hnx ha hb hab (Or.inr hl)
      have hg' := gE_fl hE (gE_pE hE bg) nx ha hb
      obtain ⟨cvd', cvr', rch', e4, hcv⟩ := learn_n 0 0 0 0 (mX5_flipped g (nI a) (nI b))
      have hlid' : ∃ l' : Nat → Int32, (∀ k, k < 8 → mX2_lidOf cvr' (nI k) = some (l' k)) := by
        refine ⟨fun k => (mX2_lidOf cvr' (nI k)).getD 0, fun k hk => ?_⟩
        rcases lid_n hcv hk with ⟨l, _, q, _⟩ | ⟨q, _⟩
        · dsimp only; rw [q]; rfl
        · dsimp only; rw [q]; rfl
      obtain ⟨l', hl'⟩ := hlid'
      refine ⟨S.all (asE l'), fun t1 t2 t3 t4 => ⟨mX5_flipped g (nI a) (nI b), cvd', cvr', rch', ?_⟩, fun q => absurd q (by rintro (q | q); exact hab q; exact hp q), fun _ _ k0 cv now hd => ?_⟩
      · have e4' : mX2_learn t1 t2 t3 t4 (mX5_flipped g (nI a) (nI b)) = some (mX5_flipped g (nI a) (nI b), cvd', cvr', rch') := e4
        rw [mX10_mayBeMissing, if_neg hne, ed_has h hE ha hb, Option.bind_some, if_neg (by rw [decide_eq_true_eq]; exact hp), eg, Option.bind_some, e4', Option.bind_some]
        dsimp only
        rw [all_c hs hS hl', Option.bind_some]
      · obtain ⟨now1, e6, hd1, hs1⟩ := md_lay hd
        obtain ⟨now2, e7, hd2, hs2⟩ := md_insert hd1 hl a b
        have e7' : mX11_insertOn now1 1 (nI a) (nI b) = some now2 := e7
        have hfl : flE E nx (10 * a + b) = E ++ [(nx, 10 * a + b)] := if_neg hp
        rw [← hfl] at hd2
        obtain ⟨mrch, cov', e9, hmc⟩ := findCovers_n hd2 hE' k0 cv
        have e9' : mX11_findCovers k0 now2 cv 1 = some (mrch, cov') := e9
        have hb1 : bcR (mX5_flipped g (nI a) (nI b)) cvd' cvr' rch' cov' mrch (pE (ePr (flE E nx (10 * a + b)))) := ⟨hcv, hg', hmc⟩
        have hml : ∀ k, k < 8 → mX11_lidOf mrch cov' (nI k) = some (l' k) := by
          intro k hk
          obtain ⟨r, q1, q2, -⟩ := hb1.lid hk
          rw [hl' k hk] at q1
          rw [q2, ← q1]
        refine ⟨mrch, cov', now2, ?_, hd.same fun i _ q => (hs2 i (Or.inl (by omega))).trans (hs1 i (by omega))⟩
        rw [mX11_mayBe, e6, Option.bind_some, e7', Option.bind_some, e9', Option.bind_some]
        exact all_m hm hS hml
theorem mknot_n {n a : Nat} (h1 : 1 ≤ n) (h8 : n ≤ 8) (ha : a < 100) : mX11_isKnot (nI n) (nI a) = decide (a < n) := by
  have hm : mX11_isKnot (nI n) (nI a) = decide (0 ≤ (nI a).toInt ∧ (nI a).toInt ≤ (n : Int) - 1) := by
    rw [mX11_isKnot, in_n, i_pred (by omega)]
    have e1 : ((nI a).toInt64).toInt = (nI a).toInt := Int32.toInt_toInt64 (nI a)
    have e2 : ((nI (n - 1)).toInt64).toInt = (n : Int) - 1 := by rw [Int32.toInt_toInt64, nI_toInt (by omega)]; omega
    rw [e1, e2]
    rfl
  rw [hm, nI_toInt (by omega)]
  exact decide_eq_decide.mpr ⟨fun q => by omega, fun q => by omega⟩
/-- a number of a range from 0 -/
theorem in_0 (p : Int32) {m : Int64} {k : Nat} (hm : m.toInt = k) (hk : k < 2 ^ 31) : (∃ i, i ≤ k ∧ p = nI i ∧ mX11_in p.toInt64 0 m = true) ∨ ((p < 0 ∨ nI k < p) ∧ mX11_in p.toInt64 0 m = false) := by
  rw [in_n, hm]
  have e1 : (p.toInt64).toInt = p.toInt := Int32.toInt_toInt64 p
  rw [e1]
  by_cases h0 : p < 0
  · have : p.toInt < 0 := by rw [Int32.lt_iff_toInt_lt, Int32.toInt_zero] at h0; exact h0
    exact Or.inr ⟨Or.inl h0, decide_eq_false (fun q => by have := q.1; rw [show (0 : Int64).toInt = 0 from rfl] at this; omega)⟩
  · obtain ⟨i, hi, rfl⟩ := nI_of h0
    rw [nI_toInt hi]
    by_cases hik : i ≤ k
    · exact Or.inl ⟨i, hik, rfl, decide_eq_true ⟨by rw [show (0 : Int64).toInt = 0 from rfl]; omega, by omega⟩⟩
    · exact Or.inr ⟨Or.inr ((nI_ltI hk hi).mpr (by omega)), decide_eq_false (fun q => by omega)⟩
theorem both_missing (h : edR sz f E) {now : Nat → Int32} (hd : mdR now 0 E nx) (hE : okE E) (hnx : nx < 1000000) (hs : seR ssz sf S) (hm : msR ks sk sl sh S) (hS : okS S) (h1 : 1 ≤ n) (h8 : n ≤ 8) (t1 t2 t3 : Int64) (t4 k0 : Int32) (cv : Nat → Int32) (p : Int32) : ∃ r t1' t2' t3' t4' k0' now' cv', mX10_missing (nI n) sz f ssz sf t1 t2 t3 t4 p = some (r, t1', t2', t3', t4') ∧ mX11_missing (nI n) k0 ks now cv sk sl sh p = some (r, k0', now', cv') ∧ mdR now' 0 E nx := by
  have hle := hE.1
  have emn : mX11_many now 0 = some (nI E.length) := md_many hd
  have core : p = 0 ∨ p = 1 → ∃ r t1' t2' t3' t4' k0' now' cv', mX10_missing_J12 (nI n) sz f ssz sf t1 t2 t3 t4 p = some (r, t1', t2', t3', t4') ∧ ((mX11_many now 0).bind fun r15 => if r15 = 24 then (some ((-4), k0, now, cv)) else (mX11_missing_L34 (nI n) ks sk sl sh p kFU 0 (-9) 0 k0 now cv)) = some (r, k0', now', cv') ∧ mdR now' 0 E nx := by
    intro hp
    rw [emn, Option.bind_some, mX10_missing_J12, ed_isFull h]
    by_cases hl : 24 ≤ E.length
    · rw [if_pos (decide_eq_true hl), if_pos (show nI E.length = 24 by rw [show E.length = 24 by omega]; rfl)]
      exact ⟨_, _, _, _, _, _, _, _, rfl, rfl, hd⟩
    · rw [if_neg (by rw [decide_eq_true_eq]; exact hl), if_neg (show ¬ nI E.length = 24 from fun q => hl (by have := (nI_eq (b := 24) (show E.length < 2 ^ 31 by omega) (by omega)).mp q; omega))]
      have hGv : ∀ v : Nat, ∃ r : Bool, (∀ (_ : v / 10 < n) (_ : v % 10 < n), (∀ (t1 t2 t3 : Int64) (t4 : Int32), ∃ t1' t2' t3' t4', mX10_mayBeMissing sz f ssz sf t1 t2 t3 t4 (nI (v / 10)) (nI (v % 10)) = some (r, t1', t2', t3', t4')) ∧ (v / 10 = v % 10 ∨ 10 * (v / 10) + v % 10 ∈ ePr E → r = false) ∧ (v / 10 ≠ v % 10 → 10 * (v / 10) + v % 10 ∉ ePr E → ∀ (k0 : Int32) (cv now : Nat → Int32), mdR now 0 E nx → ∃ k0' cv' now', mX11_mayBe k0 ks now cv sk sl sh (nI (v / 10)) (nI (v % 10)) = some (r, k0', now', cv') ∧ mdR now' 0 E nx)) ∧ (¬ (v / 10 < n ∧ v % 10 < n) → r = false) := by
        intro v
        by_cases hv : v / 10 < n ∧ v % 10 < n
        · obtain ⟨r, hr⟩ := try_n h hE hnx hs hm hS (by omega) (show v / 10 < 8 by omega) (show v % 10 < 8 by omega)
          exact ⟨r, fun _ _ => hr, fun q => absurd hv q⟩
        · exact ⟨false, fun q1 q2 => absurd ⟨q1, q2⟩ hv, fun _ => rfl⟩
      obtain ⟨G, hG⟩ := Classical.axiomOfChoice hGv
      -- the class: a row of ends
      have inner : ∀ (K : Int32 → Int32 → Int32 → Int64 → Int64 → Int64 → Int32 → Option (Int32 × Int64 × Int64 × Int64 × Int32)) (a : Nat) (ha : a < n) (j b fuel : Nat) (st : Int32 × Int32) (t1 t2 t3 : Int64) (t4 : Int32), b + j = n → j < fuel → ∃ t1' t2' t3' t4', mX10_missing_L48 K (nI n) sz f ssz sf (nI a) fuel st.1 st.2 (nI b) t1 t2 t3 t4 = K (spc G j (10 * a + b) st).1 (spc G j (10 * a + b) st).2 (nI a + 1) t1' t2' t3' t4' := by
        intro K a ha j
        induction j with
        | zero =>
          intro b fuel st t1 t2 t3 t4 hb hf
          obtain ⟨m, rfl⟩ := fuel_s hf
          rw [mX10_missing_L48, if_pos ((nI_leI (by omega) (by omega)).mpr (by omega))]
          exact ⟨_, _, _, _, rfl⟩
        | succ j ih =>
          intro b fuel st t1 t2 t3 t4 hb hf
          obtain ⟨m, rfl⟩ := fuel_s hf
          have hb8 : b < n := by omega
          have d1 : (10 * a + b) / 10 = a := by omega
          have d2 : (10 * a + b) % 10 = b := by omega
          have hg := ((hG (10 * a + b)).1 (by omega) (by omega)).1 t1 t2 t3 t4
          rw [d1, d2] at hg
          obtain ⟨t1', t2', t3', t4', eg⟩ := hg
          rw [mX10_missing_L48, if_neg (fun q => by have := (nI_leI (by omega) (by omega)).mp q; omega), eg, Option.bind_some, nI_1, pair_n]
          dsimp only
          show ∃ t1' t2' t3' t4', _ = K (spc G j (10 * a + b + 1) _).1 (spc G j (10 * a + b + 1) _).2 (nI a + 1) t1' t2' t3' t4'
          by_cases hgv : G (10 * a + b) = true
          · rw [if_pos hgv, if_pos hgv]
            by_cases hc : st.1 = 0
            · rw [if_pos hc, if_pos hc]
              exact ih (b + 1) m (st.1 + 1, nI (10 * a + b)) t1' t2' t3' t4' (by omega) (by omega)
            · rw [if_neg hc, if_neg hc]
              exact ih (b + 1) m (st.1 + 1, st.2) t1' t2' t3' t4' (by omega) (by omega)
          · rw [if_neg hgv, if_neg hgv]
            exact ih (b + 1) m st t1' t2' t3' t4' (by omega) (by omega)
      have outer : ∀ (j a fuel : Nat) (st : Int32 × Int32) (t1 t2 t3 : Int64) (t4 : Int32), a + j = n → j < fuel → ∃ t1' t2' t3' t4', mX10_missing_L33 (nI n) sz f ssz sf p fuel st.1 st.2 (nI a) t1 t2 t3 t4 = some (if p = 0 then (spc G (80 - 10 * a) (10 * a) st).1 else (spc G (80 - 10 * a) (10 * a) st).2, t1', t2', t3', t4') := by
        intro j
        induction j with
        | zero =>
          intro a fuel st t1 t2 t3 t4 ha hf
          obtain ⟨m, rfl⟩ := fuel_s hf
          rw [mX10_missing_L33, if_pos ((nI_leI (by omega) (by omega)).mpr (by omega)), spc_none G _ _ st (fun w q1 q2 => (hG w).2 (fun q => by omega))]
          by_cases p0 : p = 0
          · rw [if_pos p0, if_pos p0]; exact ⟨_, _, _, _, rfl⟩
          · rw [if_neg p0, if_neg p0]; exact ⟨_, _, _, _, rfl⟩
        | succ j ih =>
          intro a fuel st t1 t2 t3 t4 ha hf
          obtain ⟨m, rfl⟩ := fuel_s hf
          have e1 : spc G (80 - 10 * a) (10 * a) st = spc G (80 - 10 * (a + 1)) (10 * (a + 1)) (spc G n (10 * a) st) := by
            rw [show 80 - 10 * a = n + ((10 - n) + (80 - 10 * (a + 1))) from by omega, spc_add, spc_add, spc_none G (10 - n) (10 * a + n) _ (fun w q1 q2 => (hG w).2 (fun q => by omega)), show 10 * a + n + (10 - n) = 10 * (a + 1) from by omega]
          obtain ⟨t1', t2', t3', t4', e2⟩ := inner (mX10_missing_L33 (nI n) sz f ssz sf p m) a (by omega) n 0 kFU st t1 t2 t3 t4 (by omega) (kFU_b (by omega))
          have e2' : mX10_missing_L48 (mX10_missing_L33 (nI n) sz f ssz sf p m) (nI n) sz f ssz sf (nI a) kFU st.1 st.2 0 t1 t2 t3 t4 = _ := e2
          rw [mX10_missing_L33, if_neg (fun q => by have := (nI_leI (by omega) (by omega)).mp q; omega), e2', nI_1, e1]
          exact ih (a + 1) m (spc G n (10 * a) st) t1' t2' t3' t4' (by omega) (by omega)
      have model : ∀ (j v fuel : Nat) (st : Int32 × Int32) (k0 : Int32) (now cv : Nat → Int32), v + j = 80 → j < fuel → mdR now 0 E nx → ∃ k0' now' cv', mX11_missing_L34 (nI n) ks sk sl sh p fuel st.1 st.2 (nI v) k0 now cv = some (if p = 0 then (spc G j v st).1 else (spc G j v st).2, k0', now', cv') ∧ mdR now' 0 E nx := by
        intro j
        induction j with
        | zero =>
          intro v fuel st k0 now cv hv hf hd
          obtain ⟨m, rfl⟩ := fuel_s hf
          rw [mX11_missing_L34, if_pos (show (80 : Int32) ≤ nI v from (nI_leI (a := 80) (by omega) (by omega)).mpr (by omega))]
          by_cases p0 : p = 0
          · rw [if_pos p0, if_pos p0]; exact ⟨_, _, _, rfl, hd⟩
          · rw [if_neg p0, if_neg p0]; exact ⟨_, _, _, rfl, hd⟩
        | succ j ih =>
          intro v fuel st k0 now cv hv hf hd
          obtain ⟨m, rfl⟩ := fuel_s hf
          have no : G v = false → ∃ k0' now' cv', mX11_missing_J103 (mX11_missing_L34 (nI n) ks sk sl sh p m) ks sk sl sh st.1 st.2 (nI v) k0 now cv false = some (if p = 0 then (spc G (j + 1) v st).1 else (spc G (j + 1) v st).2, k0', now', cv') ∧ mdR now' 0 E nx := by
            intro hg
            rw [mX11_missing_J103, if_neg Bool.false_ne_true, nI_1, show spc G (j + 1) v st = spc G j (v + 1) st from by rw [spc, if_neg (by rw [hg]; exact Bool.false_ne_true)]]
            exact ih (v + 1) m st k0 now cv (by omega) (by omega) hd
          rw [mX11_missing_L34, if_neg (fun q => by have := (nI_leI (a := 80) (by omega) (by omega)).mp q; omega), div10 (by omega), show nI v - nI (v / 10) * 10 = nI (v % 10) from by rw [← div10 (by omega)]; exact mod10 (by omega)]
          have hv80 : v < 80 := by omega
          rw [mknot_n h1 h8 (by omega), mknot_n h1 h8 (by omega)]
          by_cases hab : v / 10 = v % 10
          · rw [if_pos (by rw [hab])]
            refine no ?_
            by_cases hin : v / 10 < n ∧ v % 10 < n
            · exact ((hG v).1 hin.1 hin.2).2.1 (Or.inl hab)
            · exact (hG v).2 hin
          rw [if_neg (fun q => hab ((nI_eq (by omega) (by omega)).mp q))]
          by_cases ha : v / 10 < n
          · rw [if_pos (decide_eq_true ha)]
            by_cases hb : v % 10 < n
            · have ef : mX11_find now 0 (nI (v / 10)) (nI (v % 10)) = some (plcP (ePr E) (10 * (v / 10) + v % 10)) := md_find hd hE (by omega) (by omega)
              rw [if_pos (decide_eq_true hb), ef, Option.bind_some]
              by_cases hp : 10 * (v / 10) + v % 10 ∈ ePr E
              · have h9 : ¬ plcP (ePr E) (10 * (v / 10) + v % 10) = -9 := by
                  have := idx_lt hp
                  rw [plcP, if_pos hp, i_ne9 (by omega)]; exact id
                rw [if_neg h9]
                exact no (((hG v).1 ha hb).2.1 (Or.inr hp))
              · have h9 : plcP (ePr E) (10 * (v / 10) + v % 10) = -9 := if_neg hp
                rw [if_pos h9, mX11_missing_J103, if_pos rfl, div10 (by omega), show nI v - nI (v / 10) * 10 = nI (v % 10) from by rw [← div10 (by omega)]; exact mod10 (by omega)]
                obtain ⟨k0', cv', now', em, hd'⟩ := ((hG v).1 ha hb).2.2 hab hp k0 cv now hd
                rw [em, Option.bind_some, nI_1]
                dsimp only
                rw [spc]
                by_cases hgv : G v = true
                · rw [if_pos hgv, if_pos hgv]
                  by_cases hc : st.1 = 0
                  · rw [if_pos hc, if_pos hc]
                    exact ih (v + 1) m (st.1 + 1, nI v) k0' now' cv' (by omega) (by omega) hd'
                  · rw [if_neg hc, if_neg hc]
                    exact ih (v + 1) m (st.1 + 1, st.2) k0' now' cv' (by omega) (by omega) hd'
                · rw [if_neg hgv, if_neg hgv]
                  exact ih (v + 1) m st k0' now' cv' (by omega) (by omega) hd'
            · rw [if_neg (by rw [decide_eq_true_eq]; exact hb)]
              exact no ((hG v).2 (fun q => hb q.2))
          · rw [if_neg (by rw [decide_eq_true_eq]; exact ha)]
            exact no ((hG v).2 (fun q => ha q.1))
      obtain ⟨t1', t2', t3', t4', ec⟩ := outer n 0 kFU (0, -9) t1 t2 t3 t4 (by omega) (kFU_b (by omega))
      obtain ⟨k0', now', cv', em, hd'⟩ := model 80 0 kFU (0, -9) k0 now cv rfl (kFU_b (by omega)) hd
      exact ⟨_, t1', t2', t3', t4', k0', now', cv', ec, em, hd'⟩
  rw [mX10_missing, mX11_missing]
  rcases in_0 p (m := 1) (k := 1) rfl (by omega) with ⟨i, hi, rfl, ei⟩ | ⟨hp, ei⟩
  · rw [if_pos ei]
    rcases (show i = 0 ∨ i = 1 by omega) with rfl | rfl
    · rw [if_pos (show nI 0 = 0 from rfl)]; exact core (Or.inl rfl)
    · rw [if_neg (by decide), if_pos (show nI 1 = 1 from rfl)]; exact core (Or.inr rfl)
  · rw [if_neg (show ¬ mX11_in p.toInt64 0 1 = true by rw [ei]; exact Bool.false_ne_true), if_neg, if_neg]
    · exact ⟨_, _, _, _, _, _, _, _, rfl, rfl, hd⟩
    · rintro rfl; rcases hp with hp | hp <;> exact absurd hp (by decide)
    · rintro rfl; rcases hp with hp | hp <;> exact absurd hp (by decide)
end MI
