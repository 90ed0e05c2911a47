/-! fault, graph: both sides alike -/
def vld (n : Nat) (t : List Nat) (k : Nat) : Prop := ∀ i, i < k → ∃ a b, a < n ∧ b < n ∧ t[2 + 2 * i]? = some (48 + a) ∧ t[3 + 2 * i]? = some (48 + b)
theorem vld_s {n k a b : Nat} {t : List Nat} (h : vld n t k) (ha : a < n) (hb : b < n) (ea : t[2 + 2 * k]? = some (48 + a)) (eb : t[3 + 2 * k]? = some (48 + b)) : vld n t (k + 1) := fun i hi => by
  rcases Nat.lt_succ_iff_lt_or_eq.mp hi with z | rfl
  · exact h i z
  · exact ⟨a, b, ha, hb, ea, eb⟩
theorem vld_e {n : Nat} (h8 : n ≤ 8) {t : List Nat} : ∀ {k : Nat}, vld n t k → ∀ p, p ∈ ePr (tE t k) → p / 10 < n ∧ p % 10 < n
  | 0, _, p, hp => by
    have : ePr (tE t 0) = [] := rfl
    rw [this] at hp; exact absurd hp List.not_mem_nil
  | k + 1, h, p, hp => by
    obtain ⟨a, b, ha, hb, ea, eb⟩ := h k (Nat.lt_succ_self k)
    rw [tE_s ea eb, mem_app] at hp
    rcases hp with hp | rfl
    · exact vld_e h8 (fun i hi => h i (Nat.lt_succ_of_lt hi)) p hp
    · omega
section FG
variable {sz : Int32} {f : Nat → Int32} {t : List Nat} {n : Nat} {ln : Int32} {tx : Nat → Int32}
theorem text_l (h : txC sz f t) (hm : txM ln tx t) (hT : okT t) (h1 : 1 ≤ n) (h8 : n ≤ 8) (hn : t[1]? = some (48 + n)) : ∀ (J k fuel fuel' : Nat) (g : Int64) (now : Nat → Int32), t.length ≤ 2 + 2 * k + 2 * J → 2 + 2 * k ≤ t.length → 2 * J + 1 < fuel → J < fuel' → mdR now 1 (tE t k) (k + 1) → okE (tE t k) → gE g = pE (ePr (tE t k)) → vld n t k → ∃ r now', mX8_firstFault_L4 sz f fuel g (nI (2 + 2 * k)) = some r ∧ mX11_readText_L80 ln tx fuel' (nI (2 + 2 * k)) now = some (r, nI n, now') ∧ (∀ i, i < 50 → now' i = now i) ∧ (r = -9 → ∃ K, t.length = 2 + 2 * K ∧ vld n t K ∧ mdR now' 1 (tE t K) (K + 1) ∧ okE (tE t K)) := by
  have h64 := hT.1
  have hsz : sz = nI t.length := by have := h.1; rwa [List.length_map] at this
  obtain ⟨hln, hmx⟩ := hm
  subst hsz
  subst hln
  have htx1 : tx (Int32.toNatClampNeg 1) - 48 = nI n := by
    have e : tx 1 = nI (48 + n) := hmx 1 _ hn
    have : nI (48 + n) - 48 = nI (48 + n - 48) := nI_subN (b := 48) (by omega)
    show tx 1 - 48 = nI n
    rw [e, this, Nat.add_sub_cancel_left]
  intro J
  induction J with
  | zero =>
    intro k fuel fuel' g now hlen hv hf hf' hd hE hg hvl
    obtain ⟨m, rfl⟩ := fuel_s hf
    obtain ⟨m', rfl⟩ := fuel_s hf'
    have em : t.length = 2 + 2 * k := by omega
    have e2 : nI t.length - nI t.length / 2 * 2 = nI (t.length % 2) := pk_rem (d := 2) (by omega) (by omega) (by omega)
    rw [mX8_firstFault_L4, mX8_length, mX6_size, if_pos (nI_le_t (by omega) (by omega)), mX8_firstFault_J53, mX8_length, mX6_size, if_neg (show ¬ nI t.length < (2 : Int32) from fun q => by have := (nI_ltI (b := 2) (by omega) (by omega)).mp q; omega), e2, if_pos (by rw [show t.length % 2 = 0 by omega]; rfl), mX8_firstFault_J75, if_pos rfl, mX11_readText_L80, if_pos (nI_le_t (by omega) (by omega)), htx1]
    exact ⟨-9, now, rfl, rfl, fun _ _ => rfl, fun _ => ⟨k, em, hvl, hd, hE⟩⟩
  | succ J ih =>
    intro k fuel fuel' g now hlen hv hf hf' hd hE hg hvl
    obtain ⟨m, rfl⟩ := fuel_s hf
    obtain ⟨m', rfl⟩ := fuel_s hf'
    have hle := hE.1
    by_cases hend : t.length = 2 + 2 * k
    · have e2 : nI t.length - nI t.length / 2 * 2 = nI (t.length % 2) := pk_rem (d := 2) (by omega) (by omega) (by omega)
      rw [mX8_firstFault_L4, mX8_length, mX6_size, if_pos (nI_le_t (by omega) (by omega)), mX8_firstFault_J53, mX8_length, mX6_size, if_neg (show ¬ nI t.length < (2 : Int32) from fun q => by have := (nI_ltI (b := 2) (by omega) (by omega)).mp q; omega), e2, if_pos (by rw [show t.length % 2 = 0 by omega]; rfl), mX8_firstFault_J75, if_pos rfl, mX11_readText_L80, if_pos (nI_le_t (by omega) (by omega)), htx1]
      exact ⟨-9, now, rfl, rfl, fun _ _ => rfl, fun _ => ⟨k, hend, hvl, hd, hE⟩⟩
    · have hvl2 : 2 + 2 * k < t.length := by omega
      have hc := List.getElem?_eq_getElem hvl2
      have htx : tx (2 + 2 * k) = nI t[2 + 2 * k] := hmx _ _ hc
      have emn : mX11_many now 1 = some (nI (tE t k).length) := md_many hd
      obtain ⟨m2, rfl⟩ := fuel_s (j := 0) (show 0 < m by omega)
      have dead : ∀ v, v ≤ 64 → ∃ r now', (some (nI v) : Option Int32) = some r ∧ (some (nI v, nI n, now) : Option (Int32 × Int32 × (Nat → Int32))) = some (r, nI n, now') ∧ (∀ i, i < 50 → now' i = now i) ∧ (r = -9 → ∃ K, t.length = 2 + 2 * K ∧ vld n t K ∧ mdR now' 1 (tE t K) (K + 1) ∧ okE (tE t K)) :=
        fun v hv => ⟨nI v, now, rfl, rfl, fun _ _ => rfl, fun q => by rw [i_ne9 (by omega)] at q; exact q.elim⟩
      rw [mX8_firstFault_L4, mX8_length, mX6_size, if_neg (nI_le_f (by omega) (by omega)), mX11_readText_L80, if_neg (nI_le_f (by omega) (by omega)), gd_n (by omega) (by omega), i_cl (a := 2 + 2 * k) (by omega), htx, htx1, ← isKnot_d]
      rcases fits_1 h hT h1 h8 hn hg hE (by omega) (by omega) hc with ⟨a, ha, ec, e1, e2, e3⟩ | ⟨e1, e3⟩
      · rw [ec] at e2 htx hc
        rw [ec, e2, if_pos e3, emn, Option.bind_some, e1]
        have ho : mX11_outOf now 1 (nI a) = some (nI (tg (tE t k) a).length) := outOf_L hd hE (by omega)
        have htg : (tg (tE t k) a).length ≤ n - 1 := by
          have := nodup_le n (a :: tg (tE t k) a) (List.nodup_cons.mpr ⟨tg_no hE, tg_nd hE⟩) (fun x hx => by
            rcases List.mem_cons.mp hx with rfl | hx
            · exact ha
            · obtain ⟨q1, q2⟩ := (tg_mem hE).mp hx
              have := vld_e h8 hvl _ q2
              omega)
          rw [List.length_cons] at this; omega
        rw [ho]
        by_cases h24 : (tE t k).length = 24
        · rw [if_neg (by rw [decide_eq_true_eq]; omega), if_pos (show nI (tE t k).length = 24 by rw [h24]; rfl)]
          exact dead _ (by omega)
        · have n24 : ¬ nI (tE t k).length = 24 := fun q => h24 ((nI_eq (b := 24) (by omega) (by omega)).mp q)
          by_cases hfull : (tg (tE t k) a).length = n - 1
          · rw [if_neg (by rw [decide_eq_true_eq]; omega), if_neg n24, Option.bind_some, show nI n - 1 = nI (n - 1) from i_pred (by omega), if_pos (by rw [hfull])]
            exact dead _ (by omega)
          · rw [if_pos (decide_eq_true (show (tg (tE t k) a).length < n - 1 ∧ (tE t k).length < 24 from ⟨by omega, by omega⟩)), if_neg n24, Option.bind_some, show nI n - 1 = nI (n - 1) from i_pred (by omega), if_neg (show ¬ nI (tg (tE t k) a).length = nI (n - 1) from fun q => hfull ((nI_eq (by omega) (by omega)).mp q)), sec_n (by omega), if_neg (by rw [decide_eq_true_eq]; omega), nI_1]
            by_cases hodd : t.length = 2 + 2 * k + 1
            · have e2' : nI t.length - nI t.length / 2 * 2 = nI (t.length % 2) := pk_rem (d := 2) (by omega) (by omega) (by omega)
              have hx : mX11_isKnot (nI n) (-9) = false := by
                rcases knot_n h1 h8 (-9) with ⟨k', hk', ek, -, -⟩ | ⟨-, q⟩
                · have := i_ne9 (show k' < 2 ^ 31 by omega)
                  rw [ek] at this
                  exact (this.mp rfl).elim
                · exact q
              rw [mX8_firstFault_L4, mX8_length, mX6_size, if_pos (nI_le_t (by omega) (by omega)), mX8_firstFault_J53, mX8_length, mX6_size, if_neg (show ¬ nI t.length < (2 : Int32) from fun q => by have := (nI_ltI (b := 2) (by omega) (by omega)).mp q; omega), e2', if_neg (by rw [show t.length % 2 = 1 by omega]; decide), mX8_firstFault_J75, if_neg Bool.false_ne_true, mX8_length, mX6_size, if_pos (nI_le_t (by omega) (by omega)), mX11_readText_J167, htx1, ← isKnot_d, if_neg (by rw [hx]; exact Bool.false_ne_true), nI_1, ← hodd]
              exact dead _ (by omega)
            · have hv3 : 2 + 2 * k + 1 < t.length := by omega
              have hc' := List.getElem?_eq_getElem hv3
              have htx' : tx (2 + 2 * k + 1) = nI t[2 + 2 * k + 1] := hmx _ _ hc'
              have hva : t[2 + 2 * k + 1 - 1]? = some (48 + a) := hc
              obtain ⟨fa, fb⟩ := fits_2 h hT h1 h8 hn hg hE (by omega) (by omega) ha hva hc'
              rw [mX8_firstFault_L4, mX8_length, mX6_size, if_neg (nI_le_f (by omega) (by omega)), if_neg (nI_le_f (by omega) (by omega)), gd_n (by omega) (by omega), i_cl (a := 2 + 2 * k + 1) (by omega), htx', mX11_readText_J167, htx1, ← isKnot_d, i_cl (a := 2 + 2 * k) (by omega), htx, e2, show nI (2 + 2 * k) + 1 = nI (2 + 2 * k + 1) from nI_add _ 1]
              rcases fb with ⟨b, hb, ecb, g1, g2, g3, g4⟩ | ⟨g1, g4⟩
              · rw [ecb] at g3 hc'
                rw [ecb, g3, if_pos g4, g1]
                by_cases hab : a = b
                · rw [if_neg (by rw [decide_eq_true_eq]; exact fun q => q.1 hab), if_pos (by rw [hab])]
                  exact dead _ (by omega)
                · have ef : mX11_find now 1 (nI a) (nI b) = some (plcP (ePr (tE t k)) (10 * a + b)) := md_find hd hE (by omega) (by omega)
                  rw [if_neg (fun q => hab ((nI_eq (by omega) (by omega)).mp q).symm), ef, Option.bind_some]
                  by_cases hp : 10 * a + b ∈ ePr (tE t k)
                  · have h9 : ¬ plcP (ePr (tE t k)) (10 * a + b) = -9 := by
                      have := idx_lt hp
                      rw [plcP, if_pos hp, i_ne9 (by omega)]; exact id
                    rw [if_neg (by rw [decide_eq_true_eq]; exact fun q => q.2 hp), if_neg h9]
                    exact dead _ (by omega)
                  · have hlen24 : (tE t k).length < 24 := by omega
                    have hkl := tE_len t k
                    obtain ⟨now2, e7, hd2, hs2⟩ := md_insert hd hlen24 a b
                    have e7' : mX11_insertOn now 1 (nI a) (nI b) = some now2 := e7
                    have hes := tE_s (t := t) (k := k) hc (show t[3 + 2 * k]? = some (48 + b) by rw [show 3 + 2 * k = 2 + 2 * k + 1 by omega]; exact hc')
                    rw [← hes] at hd2
                    have hE2 : okE (tE t (k + 1)) := by
                      rw [hes]; exact hE.app hlen24 (by omega) (by omega) (by omega) hab hp
                    have hfl : flE (tE t k) (k + 1) (10 * a + b) = tE t (k + 1) := by rw [hes]; exact if_neg hp
                    have hg2 : gE (mX5_flipped g (nI a) (nI b)) = pE (ePr (tE t (k + 1))) := by
                      rw [← hfl]; exact gE_fl hE hg (k + 1) (by omega) (by omega)
                    have hvl3 := vld_s hvl ha hb hc (show t[3 + 2 * k]? = some (48 + b) by rw [show 3 + 2 * k = 2 + 2 * k + 1 by omega]; exact hc')
                    rw [if_pos (decide_eq_true ⟨hab, hp⟩), if_pos (show plcP (ePr (tE t k)) (10 * a + b) = -9 from if_neg hp), e7', Option.bind_some, sec_n (by omega), if_pos (decide_eq_true (show 3 ≤ 2 + 2 * k + 1 ∧ (2 + 2 * k + 1) % 2 = 1 by omega)), i_pred (by omega), fa, g2, nI_1, show nI (2 + 2 * k) + 2 = nI (2 + 2 * k + 2) from nI_add _ 2]
                    obtain ⟨r, now', q1, q2, q3, q4⟩ := ih (k + 1) m2 m' (mX5_flipped g (nI a) (nI b)) now2 (by omega) (by omega) (by omega) (by omega) hd2 hE2 hg2 hvl3
                    exact ⟨r, now', q1, q2, fun i hi => (q3 i hi).trans (hs2 i (Or.inl (by omega))), q4⟩
              · rw [g1, if_neg Bool.false_ne_true, if_neg (by rw [g4]; exact Bool.false_ne_true)]
                exact dead _ (by omega)
      · rw [e1, if_neg Bool.false_ne_true, if_neg (by rw [e3]; exact Bool.false_ne_true)]
        exact dead _ (by omega)
end FG
