/-! the plain calls: both sides alike -/
theorem nar0 : vp_nar .boolean 0 = 0 := by decide
theorem nar1 : ¬ vp_nar .boolean 1 = 0 := by decide
theorem pred_toInt {k : Nat} (h : k < 2 ^ 31) : (nI k - 1).toInt = (k : Int) - 1 := by
  cases k with
  | zero => decide
  | succ k => rw [i_pred (Nat.succ_pos k), nI_toInt (by omega)]; omega
/-- a kept slot, on both sides -/
def slt (b : Bool) (ik kn nx sz : Int32) (f kp : Nat → Int32) (s n B : Nat) : Prop := (b = false ∧ ik = 0) ∨ (b = true ∧ ¬ ik = 0 ∧ ∃ E nx', kn = nI n ∧ nx = nI nx' ∧ edR sz f E ∧ mdB kp s E nx' ∧ okE E ∧ 1 ≤ nx' ∧ nx' ≤ B)
theorem slt.mono {b : Bool} {ik kn nx sz : Int32} {f kp : Nat → Int32} {s n B B' : Nat} (h : slt b ik kn nx sz f kp s n B) (hB : B ≤ B') : slt b ik kn nx sz f kp s n B' := by
  rcases h with h | ⟨h1, h2, E, nx', q1, q2, q3, q4, q5, q6, q7⟩
  · exact Or.inl h
  · exact Or.inr ⟨h1, h2, E, nx', q1, q2, q3, q4, q5, q6, by omega⟩
section PL
variable {sz : Int32} {f : Nat → Int32} {t : List Nat} {ln : Int32} {tx : Nat → Int32}
theorem both_write (h : txC sz f t) (hm : txM ln tx t) (hT : okT t) (p : Int32) : ∃ r sz' f' ln' tx' t', mX10_write sz f p = some (r, sz', f') ∧ mX11_write ln tx p = some (r, ln', tx') ∧ txC sz' f' t' ∧ txM ln' tx' t' ∧ okT t' := by
  have h64 := hT.1
  obtain ⟨hln, hmx⟩ := hm
  subst hln
  have hl : ((t.map nI) : List Int32).length = t.length := List.length_map _
  rw [mX10_write, mX11_write]
  rcases in_0 p (m := 255) (k := 255) rfl (by omega) with ⟨c, hc, rfl, ei⟩ | ⟨hp, ei⟩
  · rw [if_pos ei, if_neg (nI_pos (by omega)), if_pos (show nI c ≤ (255 : Int32) from (nI_leI (b := 255) (by omega) (by omega)).mpr hc), mX8_isFull, isFull_n h, hl]
    by_cases hf : 64 ≤ t.length
    · rw [if_pos (decide_eq_true hf), if_pos (show nI t.length = 64 by rw [show t.length = 64 by omega]; rfl)]
      exact ⟨_, _, _, _, _, t, rfl, rfl, h, ⟨rfl, hmx⟩, hT⟩
    · obtain ⟨f', e1, r1⟩ := add_n h (by omega) (nI c)
      rw [hl] at e1 r1
      rw [if_neg (by rw [decide_eq_true_eq]; exact hf), if_neg (show ¬ nI t.length = 64 from fun q => hf (by have := (nI_eq (b := 64) (show t.length < 2 ^ 31 by omega) (by omega)).mp q; omega)), mX8_add, e1, Option.bind_some, Option.bind_some, gd_n (by omega) (by omega), i_cl (by omega), nI_1]
      refine ⟨_, _, _, _, _, t ++ [c], rfl, rfl, ?_, ⟨?_, fun i x hx => ?_⟩, ?_, fun x hx => ?_⟩
      · rw [txC, List.map_append]; exact r1
      · rw [List.length_append]; rfl
      · have hil := (List.getElem?_eq_some_iff.mp hx).1
        rw [List.length_append] at hil
        by_cases hi : i = t.length
        · subst hi
          rw [List.getElem?_append_right (Nat.le_refl _), Nat.sub_self] at hx
          have : c = x := by simpa using hx
          subst this
          exact upd_s
        · have hi' : i < t.length := by
            have : ([c] : List Nat).length = 1 := rfl
            omega
          rw [List.getElem?_append_left hi'] at hx
          rw [upd_n (h := hi)]; exact hmx i x hx
      · rw [List.length_append]
        show t.length + 1 ≤ 64
        omega
      · rcases List.mem_append.mp hx with z | z
        · exact hT.2 x z
        · rw [List.mem_singleton] at z; subst z; omega
  · rw [if_neg (show ¬ mX11_in p.toInt64 0 255 = true by rw [ei]; exact Bool.false_ne_true)]
    have hr : (if p < 0 then some (-2, sz, f) else if p ≤ 255 then if mX8_isFull sz = true then some (-4, sz, f) else (mX8_add sz f p).bind fun r32 => some (mX8_length r32.1, r32.1, r32.2) else some (-2, sz, f)) = some (-2, sz, f) := by
      rcases hp with hp | hp
      · rw [if_pos hp]
      · by_cases hneg : p < 0
        · rw [if_pos hneg]
        · rw [if_neg hneg, if_neg (show ¬ p ≤ 255 from fun q => absurd (show (255 : Int32) < 255 from Int32.lt_of_lt_of_le hp q) (by decide))]
    rw [hr]
    exact ⟨_, _, _, _, _, t, rfl, rfl, h, ⟨rfl, hmx⟩, hT⟩
theorem both_wipe (h : txC sz f t) (hm : txM ln tx t) : (mX10_wipe sz).1 = (mX11_wipe ln).1 ∧ txC (mX10_wipe sz).2 f [] ∧ txM (mX11_wipe ln).2 tx [] := by
  have hl : ((t.map nI) : List Int32).length = t.length := List.length_map _
  refine ⟨?_, rowR.nil (by omega), rfl, fun i c hc => by simp at hc⟩
  show sz = ln
  rw [h.1, hl, hm.1]
end PL
section PS
variable {sz ks : Int32} {f sk sl sh : Nat → Int32} {S : List (Nat × Nat × Nat)}
theorem both_unsee (h : seR sz f S) (hm : msR ks sk sl sh S) : (mX10_unsee sz).1 = (mX11_unsee ks).1 ∧ seR (mX10_unsee sz).2 f [] ∧ msR (mX11_unsee ks).2 sk sl sh [] := by
  have hl : ((S.map encS) : List Int32).length = S.length := List.length_map _
  refine ⟨?_, rowR.nil (by omega), rfl, fun i c hc => by simp at hc⟩
  show sz = ks
  rw [h.1, hl, hm.1]
theorem both_see (h : seR sz f S) (hm : msR ks sk sl sh S) (hS : okS S) (p1 p2 p3 : Int32) : ∃ r sz' f' ks' sk' sl' sh' S', mX10_see sz f p1 p2 p3 = some (r, sz', f') ∧ mX11_see ks sk sl sh p1 p2 p3 = some (r, ks', sk', sl', sh') ∧ seR sz' f' S' ∧ msR ks' sk' sl' sh' S' ∧ okS S' := by
  have h6 := hS.1
  obtain ⟨hks, hmx⟩ := hm
  subst hks
  have hl : ((S.map encS) : List Int32).length = S.length := List.length_map _
  have no : ∃ r sz' f' ks' sk' sl' sh' S', (some (-2, sz, f) : Option (Int32 × Int32 × (Nat → Int32))) = some (r, sz', f') ∧ (some (-2, nI S.length, sk, sl, sh) : Option (Int32 × Int32 × (Nat → Int32) × (Nat → Int32) × (Nat → Int32))) = some (r, ks', sk', sl', sh') ∧ seR sz' f' S' ∧ msR ks' sk' sl' sh' S' ∧ okS S' :=
    ⟨_, _, _, _, _, _, _, S, rfl, rfl, h, ⟨rfl, hmx⟩, hS⟩
  have l8 : ∀ {p : Int32}, (p < 0 ∨ nI 7 < p) → ¬ p < 0 → (8 : Int32) ≤ p := by
    intro p hp hn
    obtain ⟨k, hk, rfl⟩ := nI_of hn
    rcases hp with hp | hp
    · exact absurd hp hn
    · have := (nI_ltI (a := 7) (by omega) hk).mp hp
      exact (nI_leI (a := 8) (by omega) hk).mpr (by omega)
  rw [mX10_see, mX11_see]
  rcases in_0 p1 (m := 7) (k := 7) rfl (by omega) with ⟨a, ha, rfl, ea⟩ | ⟨hp, ea⟩
  · rw [if_pos ea, if_neg (nI_pos (by omega)), if_neg (le8_f (by omega))]
    rcases in_0 p2 (m := 7) (k := 7) rfl (by omega) with ⟨b, hb, rfl, eb⟩ | ⟨hp, eb⟩
    · rw [if_pos eb, if_neg (nI_pos (by omega)), if_neg (le8_f (by omega))]
      rcases in_0 p3 (m := 1) (k := 1) rfl (by omega) with ⟨c, hc, rfl, ec⟩ | ⟨hp, ec⟩
      · rw [if_pos ec, if_neg (nI_pos (by omega)), if_pos (show nI c ≤ (1 : Int32) from (nI_leI (b := 1) (by omega) (by omega)).mpr hc), isFull_n h, hl]
        by_cases hf : 6 ≤ S.length
        · rw [if_pos (decide_eq_true hf), if_pos (show nI S.length = 6 by rw [show S.length = 6 by omega]; rfl)]
          exact ⟨_, _, _, _, _, _, _, S, rfl, rfl, h, ⟨rfl, hmx⟩, hS⟩
        · have ex : (100 : Int32) * nI c + 10 * nI a + nI b = encS (a, b, c) := by
            rw [show (100 : Int32) * nI c = nI (100 * c) from pk_mul 100 c, show (10 : Int32) * nI a = nI (10 * a) from pk_mul 10 a, nI_add, nI_add]; rfl
          obtain ⟨f', e1, r1⟩ := add_n h (by omega) (encS (a, b, c))
          rw [hl] at e1 r1
          rw [if_neg (by rw [decide_eq_true_eq]; exact hf), if_neg (show ¬ nI S.length = 6 from fun q => hf (by have := (nI_eq (b := 6) (show S.length < 2 ^ 31 by omega) (by omega)).mp q; omega)), ex, e1, Option.bind_some, gd_n (by omega) (by omega), gd_n (by omega) (by omega), gd_n (by omega) (by omega), i_cl (by omega), nI_1]
          refine ⟨_, _, _, _, _, _, _, S ++ [(a, b, c)], rfl, rfl, ?_, ⟨?_, fun i x hx => ?_⟩, ?_, fun x hx => ?_⟩
          · rw [seR, List.map_append]; exact r1
          · rw [List.length_append]; rfl
          · have hil := (List.getElem?_eq_some_iff.mp hx).1
            rw [List.length_append] at hil
            by_cases hi : i = S.length
            · subst hi
              rw [List.getElem?_append_right (Nat.le_refl _), Nat.sub_self] at hx
              have : (a, b, c) = x := by simpa using hx
              subst this
              exact ⟨upd_s, upd_s, upd_s⟩
            · have hi' : i < S.length := by
                have : ([(a, b, c)] : List (Nat × Nat × Nat)).length = 1 := rfl
                omega
              rw [List.getElem?_append_left hi'] at hx
              rw [upd_n (h := hi), upd_n (h := hi), upd_n (h := hi)]; exact hmx i x hx
          · rw [List.length_append]
            show S.length + 1 ≤ 6
            omega
          · rcases List.mem_append.mp hx with z | z
            · exact hS.2 x z
            · rw [List.mem_singleton] at z; subst z
              exact ⟨by show a < 8; omega, by show b < 8; omega, hc⟩
      · rw [if_neg (show ¬ mX11_in p3.toInt64 0 1 = true by rw [ec]; exact Bool.false_ne_true)]
        by_cases hneg : p3 < 0
        · rw [if_pos hneg]; exact no
        · rw [if_neg hneg, if_neg (show ¬ p3 ≤ 1 from fun q => by
            rcases hp with hp | hp
            · exact hneg hp
            · exact absurd (show (1 : Int32) < 1 from Int32.lt_of_lt_of_le hp q) (by decide))]
          exact no
    · rw [if_neg (show ¬ mX11_in p2.toInt64 0 7 = true by rw [eb]; exact Bool.false_ne_true)]
      by_cases hneg : p2 < 0
      · rw [if_pos hneg]; exact no
      · rw [if_neg hneg, if_pos (l8 hp hneg)]; exact no
  · rw [if_neg (show ¬ mX11_in p1.toInt64 0 7 = true by rw [ea]; exact Bool.false_ne_true)]
    by_cases hneg : p1 < 0
    · rw [if_pos hneg]; exact no
    · rw [if_neg hneg, if_pos (l8 hp hneg)]; exact no
end PS
section PE
variable {sz : Int32} {f : Nat → Int32} {E : List (Nat × Nat)} {now : Nat → Int32} {nx n : Nat}
theorem both_stamp (h : edR sz f E) (hd : mdR now 0 E nx) (hE : okE E) (h1 : 1 ≤ n) (h8 : n ≤ 8) (p1 p2 : Int32) : ∃ r, mX10_stamp (nI n) sz f p1 p2 = some r ∧ mX11_stamp (nI n) now p1 p2 = some r := by
  have hle := hE.1
  rw [mX10_stamp, mX11_stamp]
  rcases knots_n h1 h8 p1 p2 with ⟨a, b, ha, hb, rfl, rfl, q0, q1, q2⟩ | ⟨q0, q⟩
  · have ef : mX11_find now 0 (nI a) (nI b) = some (plcP (ePr E) (10 * a + b)) := md_find hd hE (by omega) (by omega)
    rw [if_pos q0, if_pos q1, if_pos q2, ed_has h hE (by omega) (by omega), Option.bind_some, ef, Option.bind_some]
    by_cases hp : 10 * a + b ∈ ePr E
    · have hil := idx_lt hp
      have e9 : plcP (ePr E) (10 * a + b) = nI ((ePr E).idxOf (10 * a + b)) := if_pos hp
      have h9 : ¬ plcP (ePr E) (10 * a + b) = -9 := by rw [e9, i_ne9 (by omega)]; exact id
      obtain ⟨e, he, hep⟩ := ePr_get hp
      obtain ⟨b1, b2, -⟩ := hE.2.1 e (List.mem_of_getElem? he)
      have e5 : now (26 + (ePr E).idxOf (10 * a + b)) = nI e.1 := by
        have := (hd.2.2.2.2 _ e he).2
        rwa [show 50 * 0 + 26 + (ePr E).idxOf (10 * a + b) = 26 + (ePr E).idxOf (10 * a + b) by omega] at this
      have e6 : mX3_stampOf (enc e) = nI e.1 := stampOf_n b1 (by omega)
      have e7 : mX3_at sz f (nI ((ePr E).idxOf (10 * a + b))) = enc e := ed_at h he
      rw [if_pos (decide_eq_true hp), if_neg h9, ed_placeOf h hE (by omega) (by omega), Option.bind_some, e9, e7, e6, show (26 : Int32) + nI ((ePr E).idxOf (10 * a + b)) = nI (26 + (ePr E).idxOf (10 * a + b)) from nI_add 26 _, gd_n (by omega) (by omega), i_cl (by omega), e5]
      exact ⟨_, rfl, rfl⟩
    · rw [if_neg (by rw [decide_eq_true_eq]; exact hp), if_pos (show plcP (ePr E) (10 * a + b) = -9 from if_neg hp)]
      exact ⟨_, rfl, rfl⟩
  · rw [q0, if_f, ifk q]
    exact ⟨_, rfl, rfl⟩
theorem both_edge (h : edR sz f E) (hd : mdR now 0 E nx) (hE : okE E) (p : Int32) : mX11_edge now p = some (mX10_edge sz f p) := by
  have hle := hE.1
  have em : mX11_many now 0 = some (nI E.length) := md_many hd
  have e32 : (p.toInt64).toInt = p.toInt := Int32.toInt_toInt64 p
  have z0 : (0 : Int64).toInt = 0 := rfl
  rw [mX11_edge, em, Option.bind_some, in_n, e32, z0, Int32.toInt_toInt64, pred_toInt (by omega), mX10_edge, mX3_size, mX6_size, h.len]
  by_cases hneg : p < 0
  · have : p.toInt < 0 := by rw [Int32.lt_iff_toInt_lt, Int32.toInt_zero] at hneg; exact hneg
    rw [if_pos hneg, if_neg (by rw [decide_eq_true_eq]; omega)]
  · obtain ⟨k, hk, rfl⟩ := nI_of hneg
    rw [if_neg hneg, nI_toInt hk]
    by_cases hkl : E.length ≤ k
    · rw [if_pos (nI_le_t hkl hk), if_neg (by rw [decide_eq_true_eq]; omega)]
    · have hk' : k < E.length := by omega
      have he := List.getElem?_eq_getElem hk'
      have e1 : mX3_pairOf (mX3_at (nI E.length) f (nI k)) = nI E[k].2 := by
        have := ed_pair h hE he
        rw [h.len] at this
        exact this
      have e2 : now (2 + k) = nI E[k].2 := by
        have := (hd.2.2.2.2 k _ he).1
        rwa [show 50 * 0 + 2 + k = 2 + k by omega] at this
      rw [if_neg (nI_le_f (by omega) (by omega)), if_pos (by rw [decide_eq_true_eq]; omega), show (2 : Int32) + nI k = nI (2 + k) from nI_add 2 k, gd_n (by omega) (by omega), i_cl (by omega), e1, e2]
theorem both_count (h : edR sz f E) (hd : mdR now 0 E nx) (hE : okE E) {ln ps ss : Int32} (k1 k2 k3 : Int64) (k4 k0 : Int32) (cv0 : Nat → Int32) (p : Int32) : ∃ r g cvd cvr rch rch' cov, mX10_count ln (nI n) (nI nx) sz f ps ss k1 k2 k3 k4 p = some (r, g, cvd, cvr, rch) ∧ mX11_count (nI n) ln k0 ps ss now cv0 p = some (r, rch', cov) := by
  obtain ⟨g, cvd, cvr, rch, cov, e1, e2, e3, hb⟩ := both_learn (L := 0) h hd hE k1 k2 k3 k4 k0 cv0
  have e3' : mX11_findCovers k0 now cv0 0 = some (rch, cov) := e3
  have em : mX11_many now 0 = some (nI E.length) := md_many hd
  have hcount : mX2_reachedCount rch = nI (ct rch) := by rw [mX2_reachedCount, bitCount_n hb.1.1]
  rw [mX10_count, mX11_count, e3', Option.bind_some, mX10_countCovers, e1, Option.bind_some]
  dsimp only
  by_cases p0 : p = 0
  · rw [if_pos p0, if_pos p0]; exact ⟨_, _, _, _, _, _, _, rfl, rfl⟩
  rw [if_neg p0, if_neg p0]
  by_cases p1 : p = 1
  · rw [if_pos p1, if_pos p1]; exact ⟨_, _, _, _, _, _, _, rfl, rfl⟩
  rw [if_neg p1, if_neg p1]
  by_cases p2 : p = 2
  · rw [if_pos p2, if_pos p2, em, Option.bind_some, mX3_size, mX6_size, h.len]; exact ⟨_, _, _, _, _, _, _, rfl, rfl⟩
  rw [if_neg p2, if_neg p2]
  by_cases p6 : p = 6
  · have e51 : now (Int32.toNatClampNeg 1) = nI nx := hd.2.2.1
    subst p6
    rw [if_pos rfl, if_neg (by decide), if_neg (by decide), if_neg (by decide), if_pos rfl, e51]; exact ⟨_, _, _, _, _, _, _, rfl, rfl⟩
  rw [if_neg p6]
  by_cases p8 : p = 8
  · subst p8
    rw [if_pos rfl, if_neg (by decide), if_neg (by decide), if_neg (by decide), if_neg (by decide), if_neg (by decide), if_pos rfl]; exact ⟨_, _, _, _, _, _, _, rfl, rfl⟩
  rw [if_neg p8]
  by_cases p9 : p = 9
  · subst p9
    rw [if_pos rfl, if_neg (by decide), if_neg (by decide), if_neg (by decide), if_neg (by decide), if_neg (by decide), if_neg (by decide), if_pos rfl]; exact ⟨_, _, _, _, _, _, _, rfl, rfl⟩
  rw [if_neg p9]
  by_cases p3 : p = 3
  · rw [if_pos p3, if_pos p3, ones_n, Option.bind_some, Option.bind_some, hcount]; exact ⟨_, _, _, _, _, _, _, rfl, rfl⟩
  rw [if_neg p3, if_neg p3]
  by_cases p4 : p = 4
  · obtain ⟨r, r1, r2⟩ := hb.dsum
    rw [if_pos p4, if_pos p4, r1, r2, Option.bind_some, Option.bind_some, Option.bind_some]; exact ⟨_, _, _, _, _, _, _, rfl, rfl⟩
  rw [if_neg p4, if_neg p4]
  by_cases p5 : p = 5
  · obtain ⟨r, r1, r2⟩ := hb.greatest
    rw [if_pos p5, if_pos p5, r1, r2, Option.bind_some, Option.bind_some, Option.bind_some]; exact ⟨_, _, _, _, _, _, _, rfl, rfl⟩
  rw [if_neg p5, if_neg p5, if_neg p6]
  by_cases p7 : p = 7
  · obtain ⟨r, r1, r2⟩ := between_n h hd hE rch
    rw [if_pos p7, if_pos p7, r1, r2, Option.bind_some, Option.bind_some, Option.bind_some]; exact ⟨_, _, _, _, _, _, _, rfl, rfl⟩
  rw [if_neg p7, if_neg p7, if_neg p8, if_neg p9, Option.bind_some]
  exact ⟨_, _, _, _, _, _, _, rfl, rfl⟩
end PE
