/-! the text: both sides read it alike -/
def okT (t : List Nat) : Prop := t.length ≤ 64 ∧ ∀ c, c ∈ t → c < 256
def txC (sz : Int32) (f : Nat → Int32) (t : List Nat) : Prop := rowR 64 sz f (t.map nI)
def txM (ln : Int32) (tx : Nat → Int32) (t : List Nat) : Prop := ln = nI t.length ∧ ∀ i c, t[i]? = some c → tx i = nI c
def tE (t : List Nat) (k : Nat) : List (Nat × Nat) := (List.range k).map fun i => (i + 1, 10 * (t.getD (2 + 2 * i) 0 - 48) + (t.getD (3 + 2 * i) 0 - 48))
theorem tE_s {t : List Nat} {k a b : Nat} (ha : t[2 + 2 * k]? = some (48 + a)) (hb : t[3 + 2 * k]? = some (48 + b)) : tE t (k + 1) = tE t k ++ [(k + 1, 10 * a + b)] := by
  unfold tE
  rw [List.range_succ, List.map_append]
  congr 1
  show [(k + 1, 10 * (t.getD (2 + 2 * k) 0 - 48) + (t.getD (3 + 2 * k) 0 - 48))] = _
  rw [List.getD_eq_getElem?_getD, List.getD_eq_getElem?_getD, ha, hb]
  show [(k + 1, 10 * (48 + a - 48) + (48 + b - 48))] = _
  rw [Nat.add_sub_cancel_left, Nat.add_sub_cancel_left]
theorem tE_len (t : List Nat) (k : Nat) : (tE t k).length = k := by unfold tE; rw [List.length_map, List.length_range]
def figv (c : Nat) : Int32 := if nI c < 48 then -9 else if 57 < nI c then -9 else nI c - 48
theorem isKnot_d (k p : Int32) : mX11_isKnot k p = mX11_in p.toInt64 0 ((k - 1 : Int32).toInt64) := rfl
theorem fig_v {n c : Nat} (h1 : 1 ≤ n) (h8 : n ≤ 8) (hc : c < 256) : (∃ a, a < n ∧ c = 48 + a ∧ figv c = nI a ∧ nI c - 48 = nI a ∧ mX11_isKnot (nI n) (nI a) = true) ∨ ((figv c < 0 ∨ ¬ figv c < 0 ∧ ¬ figv c < nI n) ∧ mX11_isKnot (nI n) (nI c - 48) = false) := by
  by_cases hlo : c < 48
  · right
    have e : figv c = -9 := if_pos ((nI_ltI (b := 48) (by omega) (by omega)).mpr hlo)
    refine ⟨Or.inl (by rw [e]; decide), ?_⟩
    rcases knot_n h1 h8 (nI c - 48) with ⟨k, hk, ek, -, -⟩ | ⟨-, q⟩
    · exfalso
      have : nI c = nI (k + 48) := by
        rw [← nI_add, ← ek]
        show nI c = nI c - 48 + 48
        exact (Int32.sub_add_cancel _ _).symm
      have := (nI_eq (show c < 2 ^ 31 by omega) (show k + 48 < 2 ^ 31 by omega)).mp this
      omega
    · exact q
  · have es : nI c - 48 = nI (c - 48) := nI_subN (b := 48) (by omega)
    have n48 : ¬ nI c < 48 := fun q => hlo ((nI_ltI (b := 48) (by omega) (by omega)).mp q)
    by_cases hhi : c < 48 + n
    · left
      refine ⟨c - 48, by omega, by omega, ?_, es, ?_⟩
      · rw [figv, if_neg n48, if_neg (show ¬ (57 : Int32) < nI c from fun q => by have := (nI_ltI (a := 57) (by omega) (by omega)).mp q; omega), es]
      · rw [mknot_n h1 h8 (by omega)]; exact decide_eq_true (by omega)
    · right
      constructor
      · by_cases h57 : c ≤ 57
        · right
          have e : figv c = nI (c - 48) := by rw [figv, if_neg n48, if_neg (show ¬ (57 : Int32) < nI c from fun q => by have := (nI_ltI (a := 57) (by omega) (by omega)).mp q; omega), es]
          rw [e]
          exact ⟨nI_pos (by omega), fun q => by have := (nI_ltI (show c - 48 < 2 ^ 31 by omega) (show n < 2 ^ 31 by omega)).mp q; omega⟩
        · left
          have e : figv c = -9 := by rw [figv, if_neg n48, if_pos (show (57 : Int32) < nI c from (nI_ltI (a := 57) (by omega) (by omega)).mpr (by omega))]
          rw [e]; decide
      · rcases knot_n h1 h8 (nI c - 48) with ⟨k, hk, ek, -, -⟩ | ⟨-, q⟩
        · exfalso
          rw [es] at ek
          have := (nI_eq (show c - 48 < 2 ^ 31 by omega) (show k < 2 ^ 31 by omega)).mp ek
          omega
        · exact q
section TX
variable {sz : Int32} {f : Nat → Int32} {t : List Nat} {n : Nat}
theorem figAt (h : txC sz f t) (hT : okT t) {v c : Nat} (hv : t[v]? = some c) : mX8_figureAt sz f (nI v) = figv c := by
  have hl := (List.getElem?_eq_some_iff.mp hv).1
  have h64 := hT.1
  have e : mX6_at 64 sz f (nI v) = nI c := by
    rw [at_n h (by omega), List.getD_eq_getElem?_getD, List.getElem?_map, hv]; rfl
  rw [mX8_figureAt, e]; rfl
theorem sec_n {v : Nat} (hv : v < 1000) : mX8_isSecondFigure (nI v) = decide (3 ≤ v ∧ v % 2 = 1) := by
  have e2 : nI v - nI v / 2 * 2 = nI (v % 2) := pk_rem (d := 2) (by omega) (by omega) (by omega)
  rw [mX8_isSecondFigure, e2]
  by_cases h3 : v < 3
  · rw [if_pos (show nI v < (3 : Int32) from (nI_ltI (b := 3) (by omega) (by omega)).mpr h3), decide_eq_false (by omega)]
  · rw [if_neg (show ¬ nI v < (3 : Int32) from fun q => h3 ((nI_ltI (b := 3) (by omega) (by omega)).mp q))]
    by_cases h1 : v % 2 = 1
    · rw [if_pos (by rw [h1]; rfl), decide_eq_true ⟨by omega, h1⟩]
    · rw [if_neg (show ¬ nI (v % 2) = 1 from fun q => h1 ((nI_eq (b := 1) (by omega) (by omega)).mp q)), decide_eq_false (fun q => h1 q.2)]
theorem n01 {v : Nat} (h2 : 2 ≤ v) (hv : v < 1000) : ¬ nI v = 0 ∧ ¬ nI v = 1 := ⟨nI_ne0 (by omega) (by omega), fun q => by have := (nI_eq (b := 1) (by omega) (by omega)).mp q; omega⟩
/-- as many edges as bits -/
def sum8 (F : Nat → Nat) : Nat := F 0 + F 1 + F 2 + F 3 + F 4 + F 5 + F 6 + F 7
theorem sum_cnt : ∀ (T : List (Nat × Nat)), (∀ e, e ∈ T → e.2 / 10 < 8) → sum8 (fun a => T.countP (fun e => decide (e.2 / 10 = a))) = T.length
  | [], _ => rfl
  | e :: T, h => by
    have ih := sum_cnt T fun x hx => h x (List.mem_cons_of_mem _ hx)
    have h8 := h e List.mem_cons_self
    unfold sum8 at ih ⊢
    simp only [List.countP_cons, List.length_cons] at ih ⊢
    rw [← ih]
    have : e.2 / 10 = 0 ∨ e.2 / 10 = 1 ∨ e.2 / 10 = 2 ∨ e.2 / 10 = 3 ∨ e.2 / 10 = 4 ∨ e.2 / 10 = 5 ∨ e.2 / 10 = 6 ∨ e.2 / 10 = 7 := by omega
    rcases this with q | q | q | q | q | q | q | q <;> simp [q] <;> omega
theorem tg_cn (T : List (Nat × Nat)) (a : Nat) : (tg T a).length = T.countP (fun e => decide (e.2 / 10 = a)) := by
  rw [tg, List.length_map, ← List.countP_eq_length_filter, ePr, List.countP_map]; rfl
theorem line_ct {T : List (Nat × Nat)} {g : Int64} (hg : gE g = pE (ePr T)) (hT : okE T) {a : Nat} (ha : a < 8) : ct (mX5_line g (nI a)) = (tg T a).length :=
  ct_all (fun x hx => tg_8 hT hx) (tg_nd hT) (s8_line g ha) (line_tg hg hT ha)
theorem bits_E {T : List (Nat × Nat)} {g : Int64} (hg : gE g = pE (ePr T)) (hT : okE T) : mJ13_bitCount_95d88 g = nI T.length := by
  rw [bits64, line_ct hg hT (by omega), line_ct hg hT (by omega), line_ct hg hT (by omega), line_ct hg hT (by omega), line_ct hg hT (by omega), line_ct hg hT (by omega), line_ct hg hT (by omega), line_ct hg hT (by omega)]
  congr 1
  rw [← sum_cnt T fun e he => by have := (hT.2.1 e he).2.1; omega]
  unfold sum8
  simp only [tg_cn]
theorem outOf_L {E : List (Nat × Nat)} {now : Nat → Int32} {nx L a : Nat} (hd : mdR now L E nx) (hE : okE E) (ha : a < 8) : mX11_outOf now (nI L) (nI a) = some (nI (tg E a).length) := by
  have hle := hE.1
  have em : mX11_many now (nI L) = some (nI E.length) := md_many hd
  have key : ∀ (l : List (Nat × Nat)) (k fuel c : Nat), E.drop k = l → k ≤ E.length → l.length < fuel → mX11_outOf_L5 now (nI L) (nI a) fuel (nI c) (nI k) = some (nI (c + l.countP (fun e => decide (e.2 / 10 = a)))) := by
    intro l
    induction l with
    | nil =>
      intro k fuel c hdr hk hf
      obtain ⟨m, rfl⟩ := fuel_s hf
      have := dropN hdr
      rw [mX11_outOf_L5, em, Option.bind_some, if_pos (nI_le_t (by omega) (by omega))]
      rfl
    | cons e l ih =>
      intro k fuel c hdr hk hf
      obtain ⟨m, rfl⟩ := fuel_s hf
      obtain ⟨hk1, he, hd'⟩ := dropC hdr
      have ef : mX11_fromOf now (nI L) (nI k) = some (nI (e.2 / 10)) := md_from hd hE he
      have h80 := (hE.2.1 e (List.mem_of_getElem? he)).2.1
      have hf' : l.length < m := by rw [List.length_cons] at hf; omega
      rw [mX11_outOf_L5, em, Option.bind_some, if_neg (nI_le_f (by omega) (by omega)), ef, Option.bind_some, nI_1, nI_1]
      by_cases hc : e.2 / 10 = a
      · rw [if_pos (by rw [hc]), ih (k + 1) m (c + 1) hd' (by omega) hf', List.countP_cons_of_pos (by exact decide_eq_true hc)]
        congr 2; omega
      · rw [if_neg (fun q => hc ((nI_eq (by omega) (by omega)).mp q)), show nI c + 0 = nI c from Int32.add_zero _, ih (k + 1) m c hd' (by omega) hf', List.countP_cons_of_neg (by rw [decide_eq_true_eq]; exact hc)]
  have e2 : mX11_outOf_L5 now (nI L) (nI a) kFU 0 0 = _ := key E 0 kFU 0 rfl (Nat.zero_le _) (kFU_b (by omega))
  rw [mX11_outOf, e2, tg_cn, Nat.zero_add]
/-- the first figure of a pair -/
theorem fits_1 (h : txC sz f t) (hT : okT t) (h1 : 1 ≤ n) (h8 : n ≤ 8) (hn : t[1]? = some (48 + n)) {T : List (Nat × Nat)} {g : Int64} (hg : gE g = pE (ePr T)) (hE : okE T) {v c : Nat} (h2 : 2 ≤ v) (hev : v % 2 = 0) (hv : t[v]? = some c) : (∃ a, a < n ∧ c = 48 + a ∧ mX8_fits sz f (nI v) g = decide ((tg T a).length < n - 1 ∧ T.length < 24) ∧ nI c - 48 = nI a ∧ mX11_isKnot (nI n) (nI a) = true) ∨ (mX8_fits sz f (nI v) g = false ∧ mX11_isKnot (nI n) (nI c - 48) = false) := by
  have hl := (List.getElem?_eq_some_iff.mp hv).1
  have h64 := hT.1
  have hle := hE.1
  have hc := hT.2 c (List.mem_of_getElem? hv)
  have ef := figAt h hT hv
  have en : mX8_figureAt sz f 1 = nI n := by
    have e : mX8_figureAt sz f 1 = figv (48 + n) := figAt h hT hn
    rw [e, figv, if_neg (show ¬ nI (48 + n) < (48 : Int32) from fun q => by have := (nI_ltI (b := 48) (by omega) (by omega)).mp q; omega), if_neg (show ¬ (57 : Int32) < nI (48 + n) from fun q => by have := (nI_ltI (a := 57) (by omega) (by omega)).mp q; omega)]
    have : nI (48 + n) - 48 = nI (48 + n - 48) := nI_subN (b := 48) (by omega)
    rw [this, Nat.add_sub_cancel_left]
  obtain ⟨z0, z1⟩ := n01 h2 (by omega)
  rw [mX8_fits, if_neg z0, if_neg z1, ef, en, sec_n (by omega), decide_eq_false (show ¬ (3 ≤ v ∧ v % 2 = 1) by omega), if_neg Bool.false_ne_true]
  rcases fig_v h1 h8 hc with ⟨a, ha, rfl, e1, e2, e3⟩ | ⟨q, e3⟩
  · refine Or.inl ⟨a, ha, rfl, ?_, e2, e3⟩
    have hct := line_ct hg hE (show a < 8 by omega)
    have hcl := ct_le (mX5_line g (nI a))
    rw [e1, if_neg (nI_pos (by omega)), if_pos ((nI_ltI (by omega) (by omega)).mpr ha), bitCount_n (s8_line g (by omega)), i_pred (by omega), mX8_fits_J139, mX8_fits_J139, bits_E hg hE, if_neg Bool.false_ne_true, if_pos rfl]
    rw [hct] at hcl ⊢
    by_cases hx : (tg T a).length < n - 1
    · rw [if_pos ((nI_ltI (by omega) (by omega)).mpr hx)]
      by_cases hy : 24 ≤ T.length
      · rw [if_pos (show (24 : Int32) ≤ nI T.length from (nI_leI (a := 24) (by omega) (by omega)).mpr hy), decide_eq_false (fun q => by omega)]
      · rw [if_neg (show ¬ (24 : Int32) ≤ nI T.length from fun q => hy ((nI_leI (a := 24) (by omega) (by omega)).mp q)), decide_eq_true ⟨hx, by omega⟩]
    · rw [if_neg (fun q => hx ((nI_ltI (by omega) (by omega)).mp q)), decide_eq_false (fun q => hx q.1)]
  · refine Or.inr ⟨?_, e3⟩
    rcases q with q | ⟨q, q'⟩
    · rw [if_pos q]
    · rw [if_neg q, if_neg q']
/-- the second figure of a pair -/
theorem fits_2 (h : txC sz f t) (hT : okT t) (h1 : 1 ≤ n) (h8 : n ≤ 8) (hn : t[1]? = some (48 + n)) {T : List (Nat × Nat)} {g : Int64} (hg : gE g = pE (ePr T)) (hE : okE T) {v c a : Nat} (h2 : 3 ≤ v) (hev : v % 2 = 1) (ha : a < n) (hva : t[v - 1]? = some (48 + a)) (hv : t[v]? = some c) : mX8_figureAt sz f (nI (v - 1)) = nI a ∧ ((∃ b, b < n ∧ c = 48 + b ∧ mX8_fits sz f (nI v) g = decide (a ≠ b ∧ 10 * a + b ∉ ePr T) ∧ mX8_figureAt sz f (nI v) = nI b ∧ nI c - 48 = nI b ∧ mX11_isKnot (nI n) (nI b) = true) ∨ (mX8_fits sz f (nI v) g = false ∧ mX11_isKnot (nI n) (nI c - 48) = false)) := by
  have hl := (List.getElem?_eq_some_iff.mp hv).1
  have h64 := hT.1
  have hle := hE.1
  have hc := hT.2 c (List.mem_of_getElem? hv)
  have ef := figAt h hT hv
  have fv : ∀ {k : Nat}, k ≤ 8 → figv (48 + k) = nI k := by
    intro k hk
    have : nI (48 + k) - 48 = nI (48 + k - 48) := nI_subN (b := 48) (by omega)
    rw [figv, if_neg (show ¬ nI (48 + k) < (48 : Int32) from fun q => by have := (nI_ltI (b := 48) (by omega) (by omega)).mp q; omega), if_neg (show ¬ (57 : Int32) < nI (48 + k) from fun q => by have := (nI_ltI (a := 57) (by omega) (by omega)).mp q; omega), this, Nat.add_sub_cancel_left]
  have en : mX8_figureAt sz f 1 = nI n := by
    have e : mX8_figureAt sz f 1 = figv (48 + n) := figAt h hT hn
    rw [e, fv h8]
  have ea : mX8_figureAt sz f (nI (v - 1)) = nI a := by rw [figAt h hT hva, fv (by omega)]
  refine ⟨ea, ?_⟩
  obtain ⟨z0, z1⟩ := n01 (show 2 ≤ v by omega) (by omega)
  rw [mX8_fits, if_neg z0, if_neg z1, ef, en, sec_n (by omega), decide_eq_true (show 3 ≤ v ∧ v % 2 = 1 by omega), if_pos rfl, i_pred (by omega), ea]
  rcases fig_v h1 h8 hc with ⟨b, hb, rfl, e1, e2, e3⟩ | ⟨q, e3⟩
  · refine Or.inl ⟨b, hb, rfl, ?_, e1, e2, e3⟩
    rw [e1, if_neg (nI_pos (by omega)), if_pos ((nI_ltI (by omega) (by omega)).mpr hb), isIn_n _ (by omega)]
    by_cases hab : a = b
    · rw [if_pos (by rw [hab]), decide_eq_false (fun q => q.1 hab)]
    · rw [if_neg (fun q => hab ((nI_eq (by omega) (by omega)).mp q).symm)]
      have hb2 : bt (mX5_line g (nI a)) b = true ↔ 10 * a + b ∈ ePr T := by
        rw [line_tg hg hE (by omega), tg_mem hE]
        exact ⟨fun q => q.2, fun q => ⟨by omega, q⟩⟩
      by_cases hp : 10 * a + b ∈ ePr T
      · rw [if_pos (hb2.mpr hp), decide_eq_false (fun q => q.2 hp)]
      · rw [if_neg (fun q => hp (hb2.mp q)), decide_eq_true ⟨hab, hp⟩]
  · refine Or.inr ⟨?_, e3⟩
    rcases q with q | ⟨q, q'⟩
    · rw [if_pos q]
    · rw [if_neg q, if_neg q']
end TX
