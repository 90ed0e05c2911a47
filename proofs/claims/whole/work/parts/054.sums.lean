/-! nearest, depths together, the greatest, edges between: both sides alike; who is a knot -/
section SUMS
variable {g cvd cvr : Int64} {rch : Int32} {cov now : Nat → Int32} {R : Nat → Nat → Prop} {L nx : Nat} {E : List (Nat × Nat)} {sz : Int32} {f : Nat → Int32}
theorem ct_le_of {x y : Int32} (h : ∀ i, i < 8 → bt x i = true → bt y i = true) : ct x ≤ ct y := by
  have hle : ∀ i, i < 8 → (bt x i).toNat ≤ (bt y i).toNat := by
    intro i hi
    cases hx : bt x i with
    | false => simp
    | true => rw [h i hi hx]; simp
  unfold ct
  have a0 := hle 0 (by omega); have a1 := hle 1 (by omega); have a2 := hle 2 (by omega); have a3 := hle 3 (by omega); have a4 := hle 4 (by omega); have a5 := hle 5 (by omega); have a6 := hle 6 (by omega); have a7 := hle 7 (by omega)
  omega
theorem ct_zero : ct 0 = 0 := by simp [ct, b_0]
theorem mcR.ct1 (h : mcR cov rch R) {v : Nat} (hv : v < 8) (hr : RA R v) : 1 ≤ ct (cov v) := by
  have := ct_lt (x := 0) (y := cov v) (fun i _ q => by rw [b_0] at q; cases q) hv (((h.2.2 v hv).2 v).mpr (Cov.self hr)) (by rw [b_0]; decide)
  omega
theorem mdepth_n (h : mcR cov rch R) {v : Nat} (hv : v < 8) (hr : RA R v) : mX11_depthOf rch cov (nI v) = some (nI (ct (cov v) - 1)) := by
  have := h.ct1 hv hr
  rw [mX11_depthOf, has_n _ (by omega), if_pos ((h.2.1 v).mpr hr), gd_n hv (by omega), i_cl (by omega), ones_n, Option.bind_some, i_pred (by omega)]
theorem mnear_n (h : mcR cov rch R) (hR : ∀ d, RA R d → d < 8) {a b : Nat} (ha : a < 8) (hb : b < 8) (ra : RA R a) (rb : RA R b) : ∃ m, m < 8 ∧ RA R m ∧ mX11_nearest_L53 (nI a) (nI b) (rch, cov) kFU 0 0 = some (nI m, rch, cov) ∧ ∀ d, (Cov R d a ∧ Cov R d b) ↔ Cov R d m := by
  have key : ∀ (j k fuel bs : Nat), k + j = 8 → j < fuel → bs < 8 → (Cov R bs a ∧ Cov R bs b) → (∀ d, d < k → Cov R d a ∧ Cov R d b → Cov R d bs) → ∃ m, m < 8 ∧ RA R m ∧ mX11_nearest_L53 (nI a) (nI b) (rch, cov) fuel (nI bs) (nI k) = some (nI m, rch, cov) ∧ ∀ d, (Cov R d a ∧ Cov R d b) ↔ Cov R d m := by
    intro j
    induction j with
    | zero =>
      intro k fuel bs hj hf hbs hP hm
      obtain ⟨m, rfl⟩ := fuel_s hf
      exact ⟨bs, hbs, hP.1.ra1, by rw [mX11_nearest_L53, if_pos (le8_t (by omega) (by omega))], fun d => ⟨fun q => hm d (by have := hR d q.1.ra1; omega) q, fun q => ⟨q.trans hP.1, q.trans hP.2⟩⟩⟩
    | succ j ih =>
      intro k fuel bs hj hf hbs hP hm
      obtain ⟨m, rfl⟩ := fuel_s hf
      have hk : k < 8 := by omega
      rw [mX11_nearest_L53, if_neg (le8_f hk), gd_n ha (by omega), gd_n hb (by omega)]
      show ∃ m', m' < 8 ∧ RA R m' ∧ (if mX11_has (cov (nI a).toNatClampNeg &&& cov (nI b).toNatClampNeg) (nI k) = true then ((mX11_depthOf rch cov (nI k)).bind fun r84 => (mX11_depthOf rch cov (nI bs)).bind fun r89 => if r84 ≤ r89 then mX11_nearest_L53 (nI a) (nI b) (rch, cov) m (nI bs) (nI k + 1) else mX11_nearest_L53 (nI a) (nI b) (rch, cov) m (nI k) (nI k + 1)) else mX11_nearest_L53 (nI a) (nI b) (rch, cov) m (nI bs) (nI k + 1)) = _ ∧ _
      rw [i_cl (by omega), i_cl (by omega), has_n _ (by omega), b_and, nI_1]
      have hbit : (bt (cov a) k && bt (cov b) k) = true ↔ Cov R k a ∧ Cov R k b := by rw [Bool.and_eq_true, (h.2.2 a ha).2, (h.2.2 b hb).2]
      by_cases hc : (bt (cov a) k && bt (cov b) k) = true
      · have hck := hbit.mp hc
        have c1 := ct_le (cov k); have c2 := ct_le (cov bs)
        rw [if_pos hc, mdepth_n h hk hck.1.ra1, Option.bind_some, mdepth_n h hbs hP.1.ra1, Option.bind_some]
        have k1 := h.ct1 hk hck.1.ra1; have k2 := h.ct1 hbs hP.1.ra1
        rcases hP.1.chain hck.1 with q | q
        · by_cases hkb : k = bs
          · subst hkb
            rw [if_pos ((nI_leI (by omega) (by omega)).mpr (Nat.le_refl _))]
            refine ih (k + 1) m k (by omega) (by omega) hk hP fun d hd z => ?_
            rcases Nat.lt_succ_iff_lt_or_eq.mp hd with w | w
            · exact hm d w z
            · subst w; exact q
          · have hlt : ct (cov bs) < ct (cov k) := ct_lt (fun i _ z => ((h.2.2 k hk).2 i).mpr ((((h.2.2 bs hbs).2 i).mp z).trans q)) hk (((h.2.2 k hk).2 k).mpr (Cov.self q.ra2)) (fun z => hkb ((((h.2.2 bs hbs).2 k).mp z).anti q))
            rw [if_neg (fun z => by have := (nI_leI (by omega) (by omega)).mp z; omega)]
            refine ih (k + 1) m k (by omega) (by omega) hk hck fun d hd z => ?_
            rcases Nat.lt_succ_iff_lt_or_eq.mp hd with w | w
            · exact (hm d w z).trans q
            · subst w; exact Cov.self q.ra2
        · have hle : ct (cov k) ≤ ct (cov bs) := ct_le_of (fun i _ z => ((h.2.2 bs hbs).2 i).mpr ((((h.2.2 k hk).2 i).mp z).trans q))
          rw [if_pos ((nI_leI (by omega) (by omega)).mpr (by omega))]
          refine ih (k + 1) m bs (by omega) (by omega) hbs hP fun d hd z => ?_
          rcases Nat.lt_succ_iff_lt_or_eq.mp hd with w | w
          · exact hm d w z
          · subst w; exact q
      · rw [if_neg hc]
        refine ih (k + 1) m bs (by omega) (by omega) hbs hP fun d hd z => ?_
        rcases Nat.lt_succ_iff_lt_or_eq.mp hd with w | w
        · exact hm d w z
        · subst w; exact absurd (hbit.mpr z) hc
  exact key 8 0 kFU 0 rfl (kFU_b (by omega)) (by omega) ⟨Cov.root ra, Cov.root rb⟩ fun d hd => absurd hd (Nat.not_lt_zero _)
theorem bcR.near (h : bcR g cvd cvr rch cov rch R) {a b : Nat} (ha : a < 8) (hb : b < 8) (ra : bt rch a = true) (rb : bt rch b = true) : ∃ m, m < 8 ∧ mX2_coveredByJust cvr (mX2_coverersOf cvr (nI a) &&& mX2_coverersOf cvr (nI b)) = some (nI m) ∧ mX11_nearest_L53 (nI a) (nI b) (rch, cov) kFU 0 0 = some (nI m, rch, cov) := by
  obtain ⟨h1, rfl, h2⟩ := h
  have qa := (h1.2.1 a).mp ra; have qb := (h1.2.1 b).mp rb
  obtain ⟨m, hm, rm, e1, c1⟩ := near_class h1 ha hb qa qb
  obtain ⟨m2, hm2, rm2, e2, c2⟩ := mnear_n h2 (fun _ => RA8) ha hb qa qb
  have : m = m2 := near_uniq rm rm2 fun d => (c1 d).symm.trans (c2 d)
  subst this
  exact ⟨m, hm, e1, e2⟩
theorem depth_val (h : bcR g cvd cvr rch cov rch R) {v : Nat} (hv : v < 8) : (bt rch v = true ∧ ∃ d, d < 8 ∧ mX2_depthOf cvr rch (nI v) = nI d ∧ mX11_depthOf rch cov (nI v) = some (nI d)) ∨ (¬ bt rch v = true ∧ mX2_depthOf cvr rch (nI v) = -9 ∧ mX11_depthOf rch cov (nI v) = some (-9)) := by
  have hd := h.depth hv
  by_cases hr : bt rch v = true
  · have hra := (h.2.2.2.1 v).mp hr
    have e := mdepth_n h.2.2 hv hra
    have := ct_le (cov v)
    have h1 := h.2.2.ct1 hv hra
    refine Or.inl ⟨hr, ct (cov v) - 1, by omega, ?_, e⟩
    rw [hd] at e
    exact Option.some.inj e
  · have e : mX2_depthOf cvr rch (nI v) = -9 := by rw [mX2_depthOf, mX2_isReached, isIn_n _ hv, if_neg hr]
    exact Or.inr ⟨hr, e, by rw [hd, e]⟩
theorem bcR.dsum (h : bcR g cvd cvr rch cov rch R) : ∃ r, mX2_depthSum cvr rch = some r ∧ mX11_depthsTogether rch cov = some r := by
  have key : ∀ (j k fuel : Nat) (acc : Int32), k + j = 8 → j < fuel → ∃ r, mX2_depthSum_L4 cvr rch fuel acc (nI k) = some r ∧ mX11_depthsTogether_L4 rch cov fuel acc (nI k) = some r := by
    intro j
    induction j with
    | zero =>
      intro k fuel acc hj hf
      obtain ⟨m, rfl⟩ := fuel_s hf
      exact ⟨acc, by rw [mX2_depthSum_L4, if_pos (le8_t (by omega) (by omega))], by rw [mX11_depthsTogether_L4, if_pos (le8_t (by omega) (by omega))]⟩
    | succ j ih =>
      intro k fuel acc hj hf
      obtain ⟨m, rfl⟩ := fuel_s hf
      have hk : k < 8 := by omega
      rw [mX2_depthSum_L4, if_neg (le8_f hk), mX11_depthsTogether_L4, if_neg (le8_f hk), has_n _ (by omega), nI_1]
      rcases depth_val h hk with ⟨hr, d, hd, e1, e2⟩ | ⟨hr, e1, e2⟩
      · rw [if_pos hr, e1, e2, Option.bind_some, mmaxI, if_neg (nI_pos (by omega))]
        exact ih (k + 1) m _ (by omega) (by omega)
      · rw [if_neg hr, e1, show mmaxI (-9) 0 = 0 from by decide]
        exact ih (k + 1) m _ (by omega) (by omega)
  exact key 8 0 kFU 0 rfl (kFU_b (by omega))
theorem bcR.greatest (h : bcR g cvd cvr rch cov rch R) : ∃ r, mX2_greatestDepth cvr rch = some r ∧ mX11_greatestDepth rch cov = some r := by
  have key : ∀ (j k fuel acc : Nat), k + j = 8 → j < fuel → acc < 8 → ∃ r, mX2_greatestDepth_L4 cvr rch fuel (nI acc) (nI k) = some r ∧ mX11_greatestDepth_L4 rch cov fuel (nI acc) (nI k) = some r := by
    intro j
    induction j with
    | zero =>
      intro k fuel acc hj hf ha
      obtain ⟨m, rfl⟩ := fuel_s hf
      exact ⟨nI acc, by rw [mX2_greatestDepth_L4, if_pos (le8_t (by omega) (by omega))], by rw [mX11_greatestDepth_L4, if_pos (le8_t (by omega) (by omega))]⟩
    | succ j ih =>
      intro k fuel acc hj hf ha
      obtain ⟨m, rfl⟩ := fuel_s hf
      have hk : k < 8 := by omega
      rw [mX2_greatestDepth_L4, if_neg (le8_f hk), mX11_greatestDepth_L4, if_neg (le8_f hk), nI_1]
      rcases depth_val h hk with ⟨hr, d, hd, e1, e2⟩ | ⟨hr, e1, e2⟩
      · rw [e1, e2, Option.bind_some, Option.bind_some, mmaxI]
        by_cases hda : d ≤ acc
        · rw [if_pos ((nI_leI (by omega) (by omega)).mpr hda), if_neg (fun q => by have := (nI_ltI (by omega) (by omega)).mp q; omega)]
          exact ih (k + 1) m acc (by omega) (by omega) ha
        · rw [if_neg (fun q => hda ((nI_leI (by omega) (by omega)).mp q)), if_pos ((nI_ltI (by omega) (by omega)).mpr (by omega))]
          exact ih (k + 1) m d (by omega) (by omega) hd
      · have hlt : (-9 : Int32) < nI acc := by
          rw [Int32.lt_iff_toInt_lt, nI_toInt (by omega), show (-9 : Int32).toInt = -9 from by decide]; omega
        have hle : (-9 : Int32) ≤ nI acc := by
          rw [Int32.le_iff_toInt_le, nI_toInt (by omega), show (-9 : Int32).toInt = -9 from by decide]; omega
        have hn : ¬ nI acc < -9 := by
          rw [Int32.lt_iff_toInt_lt, nI_toInt (by omega), show (-9 : Int32).toInt = -9 from by decide]; omega
        rw [e1, e2, Option.bind_some, if_pos hle, mmaxI, if_neg hn]
        exact ih (k + 1) m acc (by omega) (by omega) ha
  exact key 8 0 kFU 0 rfl (kFU_b (by omega)) (by omega)
theorem between_n (h : edR sz f E) (hd : mdR now 0 E nx) (hE : okE E) (s : Int32) : ∃ r, mX3_countBetween sz f s = some r ∧ mX11_edgesReached s now = some r := by
  have hle := h.le
  have key : ∀ (l : List (Nat × Nat)) (k fuel : Nat) (acc : Int32), E.drop k = l → k ≤ E.length → l.length < fuel → ∃ r, mX3_countBetween_L4 sz f s fuel acc (nI k) = some r ∧ mX11_edgesReached_L4 s now fuel acc (nI k) = some r := by
    intro l
    induction l with
    | nil =>
      intro k fuel acc hdr hke hf
      obtain ⟨m, rfl⟩ := fuel_s hf
      have hk := dropN hdr
      refine ⟨acc, ?_, ?_⟩
      · rw [mX3_countBetween_L4, mX6_size, if_pos (by rw [h.len]; exact (nI_leI (by omega) (by omega)).mpr hk)]
      · rw [mX11_edgesReached_L4, show (0 : Int32) = nI 0 from rfl, md_many hd, Option.bind_some, if_pos ((nI_leI (by omega) (by omega)).mpr hk)]
    | cons e l ih =>
      intro k fuel acc hdr hke hf
      obtain ⟨m, rfl⟩ := fuel_s hf
      obtain ⟨g1, g2, g3⟩ := dropC hdr
      have hm := hE.2.1 e (List.mem_of_getElem? g2)
      obtain ⟨r, e1, e2⟩ := ih (k + 1) m (if bt s (e.2 / 10) = true then acc + 1 else acc) g3 (by omega) (by simp only [List.length_cons] at hf; omega)
      refine ⟨r, ?_, ?_⟩
      · rw [mX3_countBetween_L4, mX6_size, if_neg (by rw [h.len]; exact fun q => by have := (nI_leI (by omega) (by omega)).mp q; omega), ed_pair h hE g2, div10 (by omega), isIn_n _ (by omega), nI_1]
        by_cases hb : bt s (e.2 / 10) = true
        · rw [if_pos hb] at e1 ⊢; exact e1
        · rw [if_neg hb] at e1 ⊢; exact e1
      · have z0 : mX11_many now 0 = some (nI E.length) := md_many hd
        have z1 : mX11_fromOf now 0 (nI k) = some (nI (e.2 / 10)) := md_from hd hE g2
        rw [mX11_edgesReached_L4, z0, Option.bind_some, if_neg (fun q => by have := (nI_leI (by omega) (by omega)).mp q; omega), z1, Option.bind_some, has_n _ (by omega), nI_1]
        by_cases hb : bt s (e.2 / 10) = true
        · rw [if_pos hb] at e2 ⊢; exact e2
        · rw [if_neg hb] at e2 ⊢
          rw [show acc + 0 = acc from by rw [Int32.add_zero]]; exact e2
  exact key E 0 kFU 0 rfl (Nat.zero_le _) (kFU_b (by omega))
/-- both sides learn alike -/
theorem both_learn (h : edR sz f E) (hd : mdR now L E nx) (hE : okE E) (k1 k2 k3 : Int64) (k4 k0 : Int32) (cv0 : Nat → Int32) : ∃ g cvd cvr rch cov, mX10_learnCovers sz f k1 k2 k3 k4 = some (g, cvd, cvr, rch) ∧ mX3_grid sz f = some g ∧ mX11_findCovers k0 now cv0 (nI L) = some (rch, cov) ∧ bcR g cvd cvr rch cov rch (pE (ePr E)) := by
  obtain ⟨g, eg, bg⟩ := ed_grid h hE
  obtain ⟨cvd, cvr, rch, el, hc⟩ := learn_n k1 k2 k3 k4 g
  obtain ⟨mrch, cov, em, hm⟩ := findCovers_n hd hE k0 cv0
  have hb : bcR g cvd cvr rch cov mrch (pE (ePr E)) := ⟨hc, gE_pE hE bg, hm⟩
  have := hb.same
  subst this
  exact ⟨g, cvd, cvr, rch, cov, by rw [mX10_learnCovers, eg, Option.bind_some, el, Option.bind_some], eg, em, hb⟩
end SUMS
theorem lgc_lt (x y : Int64) : lg_cmp x y < 0 ↔ x.toInt < y.toInt := by
  unfold lg_cmp
  have hg : (x > y) ↔ y.toInt < x.toInt := Int64.lt_iff_toInt_lt
  have he : (x = y) ↔ x.toInt = y.toInt := Int64.toInt_inj.symm
  by_cases h1 : x > y
  · rw [if_pos h1]; have := hg.mp h1
    exact ⟨fun q => absurd q (by decide), fun q => by omega⟩
  · rw [if_neg h1]
    have h1' : ¬ y.toInt < x.toInt := fun q => h1 (hg.mpr q)
    by_cases h2 : x = y
    · rw [if_pos h2]; have := he.mp h2
      exact ⟨fun q => absurd q (by decide), fun q => by omega⟩
    · rw [if_neg h2]
      have h2' : ¬ x.toInt = y.toInt := fun q => h2 (he.mpr q)
      exact ⟨fun _ => by omega, fun _ => by decide⟩
theorem lgc_gt (x y : Int64) : 0 < lg_cmp x y ↔ y.toInt < x.toInt := by
  unfold lg_cmp
  have hg : (x > y) ↔ y.toInt < x.toInt := Int64.lt_iff_toInt_lt
  by_cases h1 : x > y
  · rw [if_pos h1]
    exact ⟨fun _ => hg.mp h1, fun _ => by decide⟩
  · rw [if_neg h1]
    by_cases h2 : x = y
    · rw [if_pos h2]
      exact ⟨fun q => absurd q (by decide), fun q => absurd (hg.mpr q) h1⟩
    · rw [if_neg h2]
      exact ⟨fun q => absurd q (by decide), fun q => absurd (hg.mpr q) h1⟩
theorem in_n (x a b : Int64) : mX11_in x a b = decide (a.toInt ≤ x.toInt ∧ x.toInt ≤ b.toInt) := by
  unfold mX11_in
  by_cases h1 : lg_cmp x a < 0
  · have := (lgc_lt x a).mp h1
    rw [if_pos h1, decide_eq_false (fun q => by omega)]
  · have h1' : ¬ x.toInt < a.toInt := fun q => h1 ((lgc_lt x a).mpr q)
    rw [if_neg h1]
    by_cases h2 : 0 < lg_cmp x b
    · have := (lgc_gt x b).mp h2
      rw [if_pos h2, decide_eq_false (fun q => by omega)]
    · have h2' : ¬ b.toInt < x.toInt := fun q => h2 ((lgc_gt x b).mpr q)
      rw [if_neg h2, decide_eq_true ⟨by omega, by omega⟩]
/-- a number of the range 0 to n less 1, or none on both sides -/
theorem knot_n {n : Nat} (h1 : 1 ≤ n) (h8 : n ≤ 8) (p : Int32) : (∃ k, k < n ∧ p = nI k ∧ mX3_isKnot (nI n) p = true ∧ mX11_isKnot (nI n) p = true) ∨ (mX3_isKnot (nI n) p = false ∧ mX11_isKnot (nI n) p = false) := by
  have hm : mX11_isKnot (nI n) p = decide (0 ≤ p.toInt ∧ p.toInt ≤ (n : Int) - 1) := by
    rw [mX11_isKnot, in_n, i_pred (by omega)]
    have e1 : (p.toInt64).toInt = p.toInt := Int32.toInt_toInt64 p
    have e2 : ((nI (n - 1)).toInt64).toInt = (n : Int) - 1 := by rw [Int32.toInt_toInt64, nI_toInt (by omega)]; omega
    rw [e1, e2]
    rfl
  by_cases h0 : p < 0
  · have : p.toInt < 0 := by rw [Int32.lt_iff_toInt_lt, Int32.toInt_zero] at h0; exact h0
    exact Or.inr ⟨by rw [mX3_isKnot, if_pos h0], by rw [hm, decide_eq_false (fun q => by omega)]⟩
  · obtain ⟨k, hk, rfl⟩ := nI_of h0
    rw [hm, nI_toInt hk, mX3_isKnot, if_neg (nI_pos hk)]
    by_cases hkn : n ≤ k
    · exact Or.inr ⟨by rw [if_pos ((nI_leI (by omega) hk).mpr hkn)], decide_eq_false (fun q => by omega)⟩
    · exact Or.inl ⟨k, by omega, rfl, by rw [if_neg (fun q => hkn ((nI_leI (by omega) hk).mp q))], decide_eq_true ⟨by omega, by omega⟩⟩
