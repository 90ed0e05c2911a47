/-! fault and graph as whole calls; write, wipe -/
section GR
variable {sz : Int32} {f : Nat → Int32} {t : List Nat} {ln : Int32} {tx : Nat → Int32}
theorem both_text (h : txC sz f t) (hm : txM ln tx t) (hT : okT t) (rk : Int32) (now : Nat → Int32) : ∃ r kn now', mX8_firstFault sz f = some r ∧ mX11_readText rk ln now tx = some (r, kn, now') ∧ (∀ i, i < 50 → now' i = now i) ∧ (r = -9 → ∃ n K, 1 ≤ n ∧ n ≤ 8 ∧ t[1]? = some (48 + n) ∧ kn = nI n ∧ t.length = 2 + 2 * K ∧ vld n t K ∧ mdR now' 1 (tE t K) (K + 1) ∧ okE (tE t K)) := by
  have h64 := hT.1
  have hsz : sz = nI t.length := by have := h.1; rwa [List.length_map] at this
  obtain ⟨hln, hmx⟩ := hm
  subst hsz
  subst hln
  have hup : ∀ i, i < 50 → upd (upd now (Int32.toNatClampNeg 50) 0) (Int32.toNatClampNeg 51) 1 i = now i := by
    intro i hi
    have e50 : Int32.toNatClampNeg 50 = 50 := rfl
    have e51 : Int32.toNatClampNeg 51 = 51 := rfl
    rw [e50, e51, upd_n (h := by omega), upd_n (h := by omega)]
  have dead : ∀ v, v ≤ 64 → ∃ r kn now', (some (nI v) : Option Int32) = some r ∧ (some (nI v, rk, upd (upd now (Int32.toNatClampNeg 50) 0) (Int32.toNatClampNeg 51) 1) : Option (Int32 × Int32 × (Nat → Int32))) = some (r, kn, now') ∧ (∀ i, i < 50 → now' i = now i) ∧ (r = -9 → ∃ n K, 1 ≤ n ∧ n ≤ 8 ∧ t[1]? = some (48 + n) ∧ kn = nI n ∧ t.length = 2 + 2 * K ∧ vld n t K ∧ mdR now' 1 (tE t K) (K + 1) ∧ okE (tE t K)) :=
    fun v hv => ⟨nI v, rk, _, rfl, rfl, hup, fun q => by rw [i_ne9 (by omega)] at q; exact q.elim⟩
  have kf : kFU = 99999999 + 1 := rfl
  rw [mX8_firstFault, kf, mX8_firstFault_L4, mX8_length, mX6_size, mX11_readText]
  by_cases h0 : t.length = 0
  · rw [if_pos (show nI t.length ≤ (0 : Int32) by rw [h0]; decide), if_pos (show nI t.length = 0 by rw [h0]; rfl), mX8_firstFault_J53, mX8_length, mX6_size, if_pos (show nI t.length < (2 : Int32) by rw [h0]; decide), mX8_firstFault_J75, if_neg Bool.false_ne_true, mX8_length, mX6_size, show nI t.length = nI 0 by rw [h0]]
    exact dead 0 (by omega)
  have hc := List.getElem?_eq_getElem (show 0 < t.length by omega)
  have hb0 := hT.2 t[0] (List.mem_of_getElem? hc)
  have e0 : mX6_at 64 (nI t.length) f 0 = nI t[0] := by
    have := at_n h (k := 0) (by omega)
    rw [List.getD_eq_getElem?_getD, List.getElem?_map, hc] at this
    exact this
  have et0 : tx (Int32.toNatClampNeg 0) = nI t[0] := hmx 0 _ hc
  have es0 : mX8_isSecondFigure 0 = false := by decide
  rw [if_neg (show ¬ nI t.length ≤ (0 : Int32) from fun q => by have := (nI_leI (b := 0) (by omega) (by omega)).mp q; omega), if_neg (show ¬ nI t.length = 0 from nI_ne0 (by omega) (by omega)), et0, mX8_fits, if_pos rfl, e0]
  by_cases h68 : nI t[0] = 68
  · rw [if_pos h68, if_pos h68, if_pos rfl, es0, if_neg Bool.false_ne_true, show (99999999 : Nat) = 99999998 + 1 from rfl, mX8_firstFault_L4, mX8_length, mX6_size, show (0 : Int32) + 1 = 1 from rfl]
    by_cases hl1 : t.length = 1
    · rw [if_pos (show nI t.length ≤ (1 : Int32) by rw [hl1]; decide), if_pos (show nI t.length = 1 by rw [hl1]; rfl), mX8_firstFault_J53, mX8_length, mX6_size, if_pos (show nI t.length < (2 : Int32) by rw [hl1]; decide), mX8_firstFault_J75, if_neg Bool.false_ne_true, mX8_length, mX6_size, show nI t.length = nI 1 by rw [hl1]]
      exact dead 1 (by omega)
    obtain ⟨c1, hc1⟩ : ∃ c, t[1]? = some c := ⟨_, List.getElem?_eq_getElem (show 1 < t.length by omega)⟩
    have hb1 := hT.2 c1 (List.mem_of_getElem? hc1)
    have ef : mX8_figureAt (nI t.length) f 1 = figv c1 := figAt h hT hc1
    have et1 : tx (Int32.toNatClampNeg 1) = nI c1 := hmx 1 _ hc1
    have es1 : mX8_isSecondFigure 1 = false := by decide
    have z49 : (49 : Int64).toInt = 49 := rfl
    have z56 : (56 : Int64).toInt = 56 := rfl
    have ei : mX11_in ((nI c1).toInt64) 49 56 = decide (49 ≤ c1 ∧ c1 ≤ 56) := by
      rw [in_n, Int32.toInt_toInt64, nI_toInt (by omega), z49, z56]
      exact decide_eq_decide.mpr ⟨fun q => by omega, fun q => by omega⟩
    rw [if_neg (show ¬ nI t.length ≤ (1 : Int32) from fun q => by have := (nI_leI (b := 1) (by omega) (by omega)).mp q; omega), if_neg (show ¬ nI t.length = 1 from fun q => by have := (nI_eq (b := 1) (by omega) (by omega)).mp q; omega), et1, ei, mX8_fits, if_neg (show ¬ (1 : Int32) = 0 by decide), if_pos (show (1 : Int32) = 1 from rfl), ef]
    by_cases hr : 49 ≤ c1 ∧ c1 ≤ 56
    · have e1 : figv c1 = nI (c1 - 48) := by
        have es : nI c1 - 48 = nI (c1 - 48) := nI_subN (b := 48) (by omega)
        rw [figv, if_neg (show ¬ nI c1 < (48 : Int32) from fun q => by have := (nI_ltI (b := 48) (by omega) (by omega)).mp q; omega), if_neg (show ¬ (57 : Int32) < nI c1 from fun q => by have := (nI_ltI (a := 57) (by omega) (by omega)).mp q; omega), es]
      have hn : t[1]? = some (48 + (c1 - 48)) := by rw [hc1]; congr 1; omega
      rw [e1, if_neg (show ¬ nI (c1 - 48) < (1 : Int32) from fun q => by have := (nI_ltI (b := 1) (by omega) (by omega)).mp q; omega), if_neg (show ¬ (8 : Int32) < nI (c1 - 48) from fun q => by have := (nI_ltI (a := 8) (by omega) (by omega)).mp q; omega), if_pos rfl, es1, if_neg Bool.false_ne_true, if_pos (decide_eq_true hr)]
      have hd1 : mdR (upd (upd now (Int32.toNatClampNeg 50) 0) (Int32.toNatClampNeg 51) 1) 1 (tE t 0) (0 + 1) := by
        have e50 : Int32.toNatClampNeg 50 = 50 := rfl
        have e51 : Int32.toNatClampNeg 51 = 51 := rfl
        rw [e50, e51]
        refine ⟨Nat.le_refl _, ?_, ?_, ?_, ?_⟩
        · show upd (upd now 50 0) 51 1 50 = nI 0
          rw [upd_n (h := by omega), upd_s]; rfl
        · show upd (upd now 50 0) 51 1 51 = nI 1
          rw [upd_s]; rfl
        · rw [tE_len]; omega
        · intro i e he
          have : tE t 0 = [] := rfl
          rw [this] at he; simp at he
      have hg0 : gE 0 = pE (ePr (tE t 0)) := by
        funext x y
        rw [eq_iff_iff]
        constructor
        · rintro ⟨_, _, q⟩
          rw [gb_0] at q; cases q
        · rintro ⟨_, _, q⟩
          exact absurd q List.not_mem_nil
      obtain ⟨r, now', q1, q2, q3, q4⟩ := text_l h ⟨rfl, hmx⟩ hT (show 1 ≤ c1 - 48 by omega) (show c1 - 48 ≤ 8 by omega) hn 40 0 99999998 kFU 0 _ (by omega) (by omega) (by omega) (kFU_b (by omega)) hd1 okE.nil hg0 (fun i hi => absurd hi (Nat.not_lt_zero _))
      exact ⟨r, nI (c1 - 48), now', q1, q2, fun i hi => (q3 i hi).trans (hup i hi), fun z => by
        obtain ⟨K, k1, k2, k3, k4⟩ := q4 z
        exact ⟨c1 - 48, K, by omega, by omega, hn, rfl, k1, k2, k3, k4⟩⟩
    · rw [if_neg (show ¬ decide (49 ≤ c1 ∧ c1 ≤ 56) = true by rw [decide_eq_true_eq]; exact hr)]
      have hfalse : (if figv c1 < 1 then false else if 8 < figv c1 then false else true) = false := by
        by_cases hlo : c1 < 48
        · have e : figv c1 = -9 := if_pos ((nI_ltI (b := 48) (by omega) (by omega)).mpr hlo)
          rw [e]; decide
        · have n48 : ¬ nI c1 < 48 := fun q => hlo ((nI_ltI (b := 48) (by omega) (by omega)).mp q)
          by_cases h57 : 57 < c1
          · have e : figv c1 = -9 := by rw [figv, if_neg n48, if_pos (show (57 : Int32) < nI c1 from (nI_ltI (a := 57) (by omega) (by omega)).mpr h57)]
            rw [e]; decide
          · have es : nI c1 - 48 = nI (c1 - 48) := nI_subN (b := 48) (by omega)
            have e1 : figv c1 = nI (c1 - 48) := by
              rw [figv, if_neg n48, if_neg (show ¬ (57 : Int32) < nI c1 from fun q => by have := (nI_ltI (a := 57) (by omega) (by omega)).mp q; omega), es]
            have : c1 = 48 ∨ c1 = 57 := by omega
            rcases this with z | z <;> rw [e1, z] <;> decide
      rw [hfalse, if_neg Bool.false_ne_true]
      exact dead 1 (by omega)
  · rw [if_neg h68, if_neg h68, if_neg Bool.false_ne_true]
    exact dead 0 (by omega)
theorem both_fault (h : txC sz f t) (hm : txM ln tx t) (hT : okT t) (rk : Int32) (now : Nat → Int32) : ∃ r kn now', mX10_fault sz f = some r ∧ mX11_fault rk ln now tx = some (r, kn, now') ∧ (∀ i, i < 50 → now' i = now i) := by
  obtain ⟨r, kn, now', e1, e2, e3, -⟩ := both_text h hm hT rk now
  rw [mX10_fault, mX11_fault, e1, e2]
  exact ⟨r, kn, now', rfl, rfl, e3⟩
theorem read_l (h : txC sz f t) (hT : okT t) {n K : Nat} (h1 : 1 ≤ n) (h8 : n ≤ 8) (hn : t[1]? = some (48 + n)) (hlen : t.length = 2 + 2 * K) (hv : vld n t K) (hE : okE (tE t K)) (o1 o2 o3 : Int32) : ∀ (J k fuel : Nat) (sz' : Int32) (f' : Nat → Int32), k + J = K → J < fuel → edR sz' f' (tE t k) → ∃ f'', mX8_readInto_L11 sz f o1 o2 o3 fuel (nI (3 + 2 * k)) (nI (k + 1)) sz' f' = some (nI n, nI (K + 1), nI K, f'') ∧ edR (nI K) f'' (tE t K) := by
  have h64 := hT.1
  have hsz : sz = nI t.length := by have := h.1; rwa [List.length_map] at this
  have hK : K ≤ 24 := by have := hE.1; rwa [tE_len] at this
  have fv : ∀ {k : Nat}, k ≤ 8 → figv (48 + k) = nI k := by
    intro k hk
    have : nI (48 + k) - 48 = nI (48 + k - 48) := nI_subN (b := 48) (by omega)
    rw [figv, if_neg (show ¬ nI (48 + k) < (48 : Int32) from fun q => by have := (nI_ltI (b := 48) (by omega) (by omega)).mp q; omega), if_neg (show ¬ (57 : Int32) < nI (48 + k) from fun q => by have := (nI_ltI (a := 57) (by omega) (by omega)).mp q; omega), this, Nat.add_sub_cancel_left]
  have en : mX8_figureAt sz f 1 = nI n := by
    have e : mX8_figureAt sz f 1 = figv (48 + n) := figAt h hT hn
    rw [e, fv h8]
  have er : (mX3_restart o1 o2 o3 (nI n)).1 = nI n := by
    have hq : ∀ k, k < 9 → 1 ≤ k → mmaxI 1 (mminI (nI k) 8) = nI k := by decide
    exact hq n (by omega) h1
  intro J
  induction J with
  | zero =>
    intro k fuel sz' f' hk hf hr
    obtain ⟨m, rfl⟩ := fuel_s hf
    have : k = K := by omega
    subst this
    have hl := hr.len
    rw [tE_len] at hl
    subst hl
    rw [mX8_readInto_L11, mX8_length, mX6_size, en, er]
    subst hsz
    rw [if_pos (nI_le_t (by omega) (by omega))]
    exact ⟨f', rfl, hr⟩
  | succ J ih =>
    intro k fuel sz' f' hk hf hr
    obtain ⟨m, rfl⟩ := fuel_s hf
    obtain ⟨a, b, ha, hb, ea, eb⟩ := hv k (by omega)
    have fa : mX8_figureAt sz f (nI (2 + 2 * k)) = nI a := by rw [figAt h hT ea, fv (by omega)]
    have fb : mX8_figureAt sz f (nI (3 + 2 * k)) = nI b := by rw [figAt h hT eb, fv (by omega)]
    obtain ⟨f2, e2, r2⟩ := ed_append hr (by rw [tE_len]; omega) (s := k + 1) (a := a) (b := b)
    rw [tE_len] at e2 r2
    rw [← tE_s ea eb] at r2
    rw [mX8_readInto_L11, mX8_length, mX6_size, fb, show nI (3 + 2 * k) - 1 = nI (2 + 2 * k) from (i_pred (by omega)).trans (congrArg nI (by omega)), fa, e2, Option.bind_some, show nI (3 + 2 * k) + 2 = nI (3 + 2 * (k + 1)) from (nI_add _ 2).trans (congrArg nI (by omega))]
    have := ih (k + 1) m _ f2 (by omega) (by omega) r2
    rw [if_neg (by rw [hsz]; exact nI_le_f (by omega) (by omega))]
    exact this
end GR
