/-! the reference's covers; both sides speak of one relation of edges -/
theorem Rch.congr8 {E : Nat → Nat → Prop} {D D' : Nat → Prop} (hE : ∀ x y, E x y → y < 8) (h : ∀ y, y < 8 → (D y ↔ D' y)) (v : Nat) : Rch E D v ↔ Rch E D' v :=
  ⟨fun q S h0 hs => q S (fun z => h0 (fun w => z ((h 0 (by omega)).mpr w))) (fun x y hx e hy => hs x y hx e (fun w => hy ((h y (hE x y e)).mpr w))),
   fun q S h0 hs => q S (fun z => h0 (fun w => z ((h 0 (by omega)).mp w))) (fun x y hx e hy => hs x y hx e (fun w => hy ((h y (hE x y e)).mp w)))⟩
theorem pE8 {P : List Nat} {x y : Nat} (h : pE P x y) : y < 8 := h.2.1
theorem pRA8 {P : List Nat} {v : Nat} (h : RA (pE P) v) : v < 8 := h (fun v => v < 8) (fun _ => by omega) (fun _ _ _ e _ => e.2.1)
theorem gE_pE {g : Int64} {E : List (Nat × Nat)} (hE : okE E) (hg : ∀ i, i < 64 → gb g i = decide (i ∈ (ePr E).map c8)) : gE g = pE (ePr E) := by
  funext a b
  refine propext ⟨fun h => ⟨h.1, h.2.1, ?_⟩, fun h => ⟨h.1, h.2.1, ?_⟩⟩
  · have h1 := h.1; have h2 := h.2.1
    have h3 := h.2.2
    rw [hg _ (by omega), decide_eq_true_eq] at h3
    obtain ⟨p, hp, hc⟩ := List.mem_map.mp h3
    obtain ⟨e, he, rfl⟩ := List.mem_map.mp hp
    have hm := hE.2.1 e he
    have : e.2 = 10 * a + b := by unfold c8 at hc; omega
    rw [← this]; exact hp
  · have h1 := h.1; have h2 := h.2.1
    rw [hg _ (by omega), decide_eq_true_eq]
    exact List.mem_map.mpr ⟨10 * a + b, h.2.2, by unfold c8; omega⟩
theorem alE_pE {E : List (Nat × Nat)} (hE : okE E) : alE E (-9) 0 = pE (ePr E) := by
  funext a b
  refine propext ⟨fun h => ?_, fun h => ?_⟩
  · obtain ⟨i, e, he, -, rfl, rfl⟩ := h
    have hm := hE.2.1 e (List.mem_of_getElem? he)
    exact ⟨by omega, by omega, by rw [show 10 * (e.2 / 10) + e.2 % 10 = e.2 by omega]; exact List.mem_map.mpr ⟨e, List.mem_of_getElem? he, rfl⟩⟩
  · obtain ⟨h1, h2, h3⟩ := h
    obtain ⟨e, he, h4⟩ := List.mem_map.mp h3
    obtain ⟨i, hi⟩ := List.getElem?_of_mem he
    refine ⟨i, e, hi, ?_, by omega, by omega⟩
    rw [alw, hi]
    show (!decide (nI (e.2 / 10) = -9) || _) = true
    have hm := hE.2.1 e he
    rw [decide_eq_false (fun q => (i_ne9 (a := e.2 / 10) (by omega)).mp q)]; rfl
/-- what the reference's covers hold -/
def mcR (cov : Nat → Int32) (rch : Int32) (R : Nat → Nat → Prop) : Prop := s8 rch ∧ (∀ v, bt rch v = true ↔ RA R v) ∧ ∀ v, v < 8 → s8 (cov v) ∧ ∀ d, bt (cov v) d = true ↔ Cov R d v
section FC
variable {now : Nat → Int32} {L nx : Nat} {E : List (Nat × Nat)}
theorem findCovers_n (h : mdR now L E nx) (hE : okE E) (k0 : Int32) (cv0 : Nat → Int32) : ∃ rch cov, mX11_findCovers k0 now cv0 (nI L) = some (rch, cov) ∧ mcR cov rch (pE (ePr E)) := by
  have hE8 : ∀ x y, pE (ePr E) x y → y < 8 := fun x y q => q.2.1
  obtain ⟨rch, er, sr, br⟩ := mreached_n h hE (-9) (-9) 0
  rw [alE_pE hE] at br
  have br : ∀ v, bt rch v = true ↔ RA (pE (ePr E)) v := fun v => (br v).trans (Rch.congr8 hE8 (fun y hy => ⟨fun q => (i_ne9 (a := y) (by omega)).mp q, False.elim⟩) v)
  -- one knot's row of bits
  have inner : ∀ (K : Int32 → (Nat → Int32) → Option (Int32 × (Nat → Int32))) (d : Nat) (wo : Int32), d < 8 → (∀ v, v < 8 → ((bt rch v = true ∧ ¬ bt wo v = true) ↔ Cov (pE (ePr E)) d v)) → ∀ (j v fuel : Nat) (w : Nat → Int32), v + j = 8 → j < fuel → (∀ x, x < 8 → s8 (w x)) → ∃ w', mX11_findCovers_L74 K rch (nI d) fuel wo (nI v) w = K (nI (d + 1)) w' ∧ (∀ x, x < 8 → s8 (w' x)) ∧ (∀ x, x < v → w' x = w x) ∧ ∀ x, v ≤ x → x < 8 → ∀ i, bt (w' x) i = true ↔ bt (w x) i = true ∨ (i = d ∧ Cov (pE (ePr E)) d x) := by
    intro K d wo hd hwo j
    induction j with
    | zero =>
      intro v fuel w hj hf hw
      obtain ⟨m, rfl⟩ := fuel_s hf
      exact ⟨w, by rw [mX11_findCovers_L74, if_pos (le8_t (by omega) (by omega)), nI_1], hw, fun _ _ => rfl, fun x a b => by omega⟩
    | succ j ih =>
      intro v fuel w hj hf hw
      obtain ⟨m, rfl⟩ := fuel_s hf
      have hv : v < 8 := by omega
      have step : ∀ z : Int32, s8 (w v ||| z) → (∀ i, bt (w v ||| z) i = true ↔ bt (w v) i = true ∨ (i = d ∧ Cov (pE (ePr E)) d v)) → ∃ w', mX11_findCovers_L74 K rch (nI d) m wo (nI v + 1) (upd w (nI v).toNatClampNeg (w (nI v).toNatClampNeg ||| z)) = K (nI (d + 1)) w' ∧ (∀ x, x < 8 → s8 (w' x)) ∧ (∀ x, x < v → w' x = w x) ∧ ∀ x, v ≤ x → x < 8 → ∀ i, bt (w' x) i = true ↔ bt (w x) i = true ∨ (i = d ∧ Cov (pE (ePr E)) d x) := by
        intro z hz hb
        rw [i_cl (by omega), nI_1]
        obtain ⟨w', b1, b2, b3, b4⟩ := ih (v + 1) m (upd w v (w v ||| z)) (by omega) (by omega) (fun x hx => by
          by_cases hxv : x = v
          · subst hxv; rw [upd_s]; exact hz
          · rw [upd_n hxv]; exact hw x hx)
        refine ⟨w', b1, b2, fun x hx => by rw [b3 x (by omega), upd_n (by omega)], fun x h1 h2 i => ?_⟩
        by_cases hxv : x = v
        · subst hxv; rw [b3 x (by omega), upd_s]; exact hb i
        · rw [b4 x (by omega) h2 i, upd_n hxv]
      rw [mX11_findCovers_L74, if_neg (le8_f hv), gd_n hv (by omega), has_n rch (by omega)]
      by_cases hr : bt rch v = true
      · rw [if_pos hr, has_n _ (by omega)]
        by_cases hq : bt wo v = true
        · rw [if_pos hq, gd_n hv (by omega)]
          refine step 0 (by rw [or0]; exact hw v hv) fun i => ?_
          rw [or0]
          exact ⟨Or.inl, fun q => q.resolve_right fun c => ((hwo v hv).mpr c.2).2 hq⟩
        · rw [if_neg hq, gd_n hv (by omega)]
          refine step (mX5_only (nI d)) (s8_or (hw v hv) (s8_only hd)) fun i => ?_
          rw [b_or, only_b (by omega), Bool.or_eq_true, decide_eq_true_eq]
          exact ⟨fun q => q.imp_right fun e => ⟨e, (hwo v hv).mp ⟨hr, hq⟩⟩, fun q => q.imp_right fun e => e.1⟩
      · rw [if_neg hr, gd_n hv (by omega)]
        refine step 0 (by rw [or0]; exact hw v hv) fun i => ?_
        rw [or0]
        exact ⟨Or.inl, fun q => q.resolve_right fun c => hr ((br v).mpr c.2.ra2)⟩
  have outer : ∀ (j d fuel : Nat) (w : Nat → Int32), d + j = 8 → j < fuel → (∀ x, x < 8 → s8 (w x)) → (∀ x, x < 8 → ∀ i, bt (w x) i = true ↔ i < d ∧ Cov (pE (ePr E)) i x) → ∃ w', mX11_findCovers_L37 now (nI L) rch fuel (nI d) w = some (rch, w') ∧ ∀ x, x < 8 → s8 (w' x) ∧ ∀ i, bt (w' x) i = true ↔ Cov (pE (ePr E)) i x := by
    intro j
    induction j with
    | zero =>
      intro d fuel w hj hf hw hb
      obtain ⟨m, rfl⟩ := fuel_s hf
      exact ⟨w, by rw [mX11_findCovers_L37, if_pos (le8_t (by omega) (by omega))], fun x hx => ⟨hw x hx, fun i => (hb x hx i).trans ⟨fun q => q.2, fun q => ⟨by have := pRA8 q.ra1; omega, q⟩⟩⟩⟩
    | succ j ih =>
      intro d fuel w hj hf hw hb
      obtain ⟨m, rfl⟩ := fuel_s hf
      have hd : d < 8 := by omega
      have go : ∀ wo : Int32, (∀ v, v < 8 → ((bt rch v = true ∧ ¬ bt wo v = true) ↔ Cov (pE (ePr E)) d v)) → ∃ w', mX11_findCovers_L74 (mX11_findCovers_L37 now (nI L) rch m) rch (nI d) kFU wo 0 w = some (rch, w') ∧ ∀ x, x < 8 → s8 (w' x) ∧ ∀ i, bt (w' x) i = true ↔ Cov (pE (ePr E)) i x := by
        intro wo hwo
        obtain ⟨w1, b1, b2, -, b4⟩ := inner (mX11_findCovers_L37 now (nI L) rch m) d wo hd hwo 8 0 kFU w rfl (kFU_b (by omega)) hw
        rw [show (0 : Int32) = nI 0 from rfl, b1]
        refine ih (d + 1) m w1 (by omega) (by omega) b2 fun x hx i => ?_
        rw [b4 x (Nat.zero_le _) hx i, hb x hx i]
        constructor
        · rintro (q | ⟨rfl, q⟩)
          · exact ⟨by omega, q.2⟩
          · exact ⟨by omega, q⟩
        · rintro ⟨q1, q2⟩
          rcases Nat.lt_succ_iff_lt_or_eq.mp q1 with z | z
          · exact Or.inl ⟨z, q2⟩
          · exact Or.inr ⟨z, by rw [← z]; exact q2⟩
      rw [mX11_findCovers_L37, if_neg (le8_f hd), has_n rch (by omega)]
      by_cases hr : bt rch d = true
      · rw [if_pos hr]
        obtain ⟨lf, el, sl, bl⟩ := mreached_n h hE (nI d) (-9) 0
        rw [alE_pE hE] at bl
        have bl : ∀ v, bt lf v = true ↔ Rd (pE (ePr E)) d v := fun v => (bl v).trans (Rch.congr8 hE8 (fun y hy => nI_eq (by omega) (by omega)) v)
        rw [el, Option.bind_some]
        refine go lf fun v hv => ?_
        rw [br v, bl v]
        exact ⟨fun q => ⟨(br d).mp hr, q.1, q.2⟩, fun q => ⟨q.2.1, q.2.2⟩⟩
      · rw [if_neg hr]
        refine go rch fun v hv => ⟨fun q => absurd q.1 q.2, fun q => absurd ((br d).mpr q.ra1) hr⟩
  have clear : ∀ (j v fuel : Nat) (w : Nat → Int32), v + j = 8 → j < fuel → (∀ x, x < v → w x = 0) → ∃ w', mX11_findCovers_L16 now (nI L) rch fuel (nI v) w = mX11_findCovers_L37 now (nI L) rch kFU 0 w' ∧ ∀ x, x < 8 → w' x = 0 := by
    intro j
    induction j with
    | zero =>
      intro v fuel w hj hf hw
      obtain ⟨m, rfl⟩ := fuel_s hf
      exact ⟨w, by rw [mX11_findCovers_L16, if_pos (le8_t (by omega) (by omega))], fun x hx => hw x (by omega)⟩
    | succ j ih =>
      intro v fuel w hj hf hw
      obtain ⟨m, rfl⟩ := fuel_s hf
      rw [mX11_findCovers_L16, if_neg (le8_f (by omega)), gd_n (show v < 8 by omega) (by omega), i_cl (by omega), nI_1]
      refine ih (v + 1) m _ (by omega) (by omega) fun x hx => ?_
      by_cases hxv : x = v
      · subst hxv; rw [upd_s]
      · rw [upd_n hxv]; exact hw x (by omega)
  obtain ⟨w1, e1, z1⟩ := clear 8 0 kFU cv0 rfl (kFU_b (by omega)) (fun x hx => absurd hx (Nat.not_lt_zero _))
  obtain ⟨w2, e2, z2⟩ := outer 8 0 kFU w1 rfl (kFU_b (by omega)) (fun x hx => by rw [z1 x hx]; exact s8_0) (fun x hx i => by rw [z1 x hx, b_0]; exact ⟨fun q => (by cases q), fun q => absurd q.1 (Nat.not_lt_zero _)⟩)
  refine ⟨rch, w2, ?_, sr, br, z2⟩
  rw [mX11_findCovers, er, Option.bind_some]
  exact e1.trans e2
end FC
/-! the two sides' covers of one relation -/
section BOTH
variable {g cvd cvr : Int64} {rch mrch : Int32} {cov : Nat → Int32} {R : Nat → Nat → Prop}
/-- the class's Covers and the reference's covers, of one relation R -/
def bcR (g cvd cvr : Int64) (rch : Int32) (cov : Nat → Int32) (mrch : Int32) (R : Nat → Nat → Prop) : Prop := cvR g cvd cvr rch ∧ gE g = R ∧ mcR cov mrch R
theorem bcR.same (h : bcR g cvd cvr rch cov mrch R) : rch = mrch := by
  obtain ⟨h1, rfl, h2⟩ := h
  exact s8_ext h1.1 h2.1 fun i _ => by rw [Bool.eq_iff_iff, h1.2.1, h2.2.1]
theorem bcR.of (h : bcR g cvd cvr rch cov mrch R) {v : Nat} (hv : v < 8) : mX5_line cvr (nI v) = cov v := by
  obtain ⟨h1, rfl, h2⟩ := h
  exact s8_ext (s8_line _ hv) (h2.2.2 v hv).1 fun i _ => by rw [Bool.eq_iff_iff, h1.of hv, (h2.2.2 v hv).2]
theorem mlid_n (h : mcR cov mrch R) (hR : ∀ d, RA R d → d < 8) {v : Nat} (hv : v < 8) : (∃ l, l < 8 ∧ mX11_lidOf mrch cov (nI v) = some (nI l) ∧ isLid R l v) ∨ (mX11_lidOf mrch cov (nI v) = some (-9) ∧ ∀ l, ¬ isLid R l v) := by
  have key : ∀ (j k fuel : Nat) (lid : Int32), k + j = 8 → j < fuel → ((lid = -9 ∧ ∀ d, d < k → ¬ (Cov R d v ∧ d ≠ v)) ∨ ∃ l, l < 8 ∧ lid = nI l ∧ (Cov R l v ∧ l ≠ v) ∧ ∀ d, d < k → Cov R d v ∧ d ≠ v → Cov R d l) → (∃ l, l < 8 ∧ mX11_lidOf_L5 mrch cov (nI v) fuel lid (nI k) = some (nI l) ∧ isLid R l v) ∨ (mX11_lidOf_L5 mrch cov (nI v) fuel lid (nI k) = some (-9) ∧ ∀ l, ¬ isLid R l v) := by
    intro j
    induction j with
    | zero =>
      intro k fuel lid hj hf hor
      obtain ⟨m, rfl⟩ := fuel_s hf
      rw [mX11_lidOf_L5, if_pos (le8_t (by omega) (by omega))]
      rcases hor with ⟨rfl, hn⟩ | ⟨l, hl, rfl, hP, hm⟩
      · exact Or.inr ⟨rfl, fun l q => hn l (by have := hR l q.1.ra1; omega) ⟨q.1, q.2.1⟩⟩
      · exact Or.inl ⟨l, hl, rfl, hP.1, hP.2, fun d hd hne => hm d (by have := hR d hd.ra1; omega) ⟨hd, hne⟩⟩
    | succ j ih =>
      intro k fuel lid hj hf hor
      obtain ⟨m, rfl⟩ := fuel_s hf
      have hk : k < 8 := by omega
      have no : ¬ (Cov R k v ∧ k ≠ v) → (∃ l, l < 8 ∧ mX11_lidOf_L5 mrch cov (nI v) m lid (nI (k + 1)) = some (nI l) ∧ isLid R l v) ∨ (mX11_lidOf_L5 mrch cov (nI v) m lid (nI (k + 1)) = some (-9) ∧ ∀ l, ¬ isLid R l v) := by
        intro hno
        refine ih (k + 1) m lid (by omega) (by omega) ?_
        rcases hor with ⟨rfl, hn⟩ | ⟨l, hl, rfl, hP, hm⟩
        · refine Or.inl ⟨rfl, fun d hd => ?_⟩
          rcases Nat.lt_succ_iff_lt_or_eq.mp hd with z | z
          · exact hn d z
          · subst z; exact hno
        · refine Or.inr ⟨l, hl, rfl, hP, fun d hd q => ?_⟩
          rcases Nat.lt_succ_iff_lt_or_eq.mp hd with z | z
          · exact hm d z q
          · subst z; exact absurd q hno
      have jn : ∀ K : Int32 → Int32 → Option Int32, mX11_lidOf_J55 K cov lid (nI k) false = K lid (nI (k + 1)) := fun K => by
        unfold mX11_lidOf_J55; rw [if_neg (by decide), nI_1]
      rw [mX11_lidOf_L5, if_neg (le8_f hk)]
      by_cases h0 : v = 0
      · rw [if_pos (show nI v ≤ 0 from by subst h0; decide), jn]
        refine no fun q => ?_
        subst h0
        exact q.2 q.1.of_root
      · rw [if_neg (nI_nle (by omega) (by omega)), if_neg (le8_f hv), has_n _ (by omega)]
        by_cases hr : bt mrch v = true
        · rw [if_pos hr]
          by_cases hkv : k = v
          · rw [if_pos (by rw [hkv]), jn]
            exact no fun q => q.2 hkv
          · rw [if_neg (fun q => hkv ((nI_eq (by omega) (by omega)).mp q)), gd_n hv (by omega), i_cl (by omega), has_n _ (by omega)]
            by_cases hc : bt (cov v) k = true
            · have hck : Cov R k v := ((h.2.2 v hv).2 k).mp hc
              rw [if_pos hc, mX11_lidOf_J55, if_pos rfl]
              rcases hor with ⟨rfl, hn⟩ | ⟨l, hl, rfl, hP, hm⟩
              · rw [if_pos rfl, nI_1]
                refine ih (k + 1) m (nI k) (by omega) (by omega) (Or.inr ⟨k, hk, rfl, ⟨hck, hkv⟩, fun d hd q => ?_⟩)
                rcases Nat.lt_succ_iff_lt_or_eq.mp hd with z | z
                · exact absurd q (hn d z)
                · subst z; exact Cov.self hck.ra1
              · rw [if_neg (fun q => (i_ne9 (a := l) (by omega)).mp q), gd_n hk (by omega), i_cl (by omega), has_n _ (by omega), nI_1]
                by_cases hlk : bt (cov k) l = true
                · have hlk' : Cov R l k := ((h.2.2 k hk).2 l).mp hlk
                  rw [if_pos hlk]
                  refine ih (k + 1) m (nI k) (by omega) (by omega) (Or.inr ⟨k, hk, rfl, ⟨hck, hkv⟩, fun d hd q => ?_⟩)
                  rcases Nat.lt_succ_iff_lt_or_eq.mp hd with z | z
                  · exact (hm d z q).trans hlk'
                  · subst z; exact Cov.self hck.ra1
                · rw [if_neg hlk]
                  have hkl : Cov R k l := (hP.1.chain hck).resolve_left fun q => hlk (((h.2.2 k hk).2 l).mpr q)
                  refine ih (k + 1) m (nI l) (by omega) (by omega) (Or.inr ⟨l, hl, rfl, hP, fun d hd q => ?_⟩)
                  rcases Nat.lt_succ_iff_lt_or_eq.mp hd with z | z
                  · exact hm d z q
                  · subst z; exact hkl
            · rw [if_neg hc, jn]
              exact no fun q => hc (((h.2.2 v hv).2 k).mpr q.1)
        · rw [if_neg hr, jn]
          exact no fun q => hr ((h.2.1 v).mpr q.1.ra2)
  exact key 8 0 kFU (-9) rfl (kFU_b (by omega)) (Or.inl ⟨rfl, fun d hd => absurd hd (Nat.not_lt_zero _)⟩)
/-- both find the same lid -/
theorem bcR.lid (h : bcR g cvd cvr rch cov mrch R) {v : Nat} (hv : v < 8) : ∃ r, mX2_lidOf cvr (nI v) = some r ∧ mX11_lidOf mrch cov (nI v) = some r ∧ ((∃ l, l < 8 ∧ r = nI l ∧ isLid R l v) ∨ (r = -9 ∧ ∀ l, ¬ isLid R l v)) := by
  obtain ⟨h1, rfl, h2⟩ := h
  rcases lid_n h1 hv with ⟨l, hl, e, q⟩ | ⟨e, q⟩
  · rcases mlid_n h2 (fun _ => RA8) hv with ⟨l', hl', e', q'⟩ | ⟨e', q'⟩
    · have := q.uniq q'; subst this
      exact ⟨nI l, e, e', Or.inl ⟨l, hl, rfl, q⟩⟩
    · exact absurd q (q' l)
  · rcases mlid_n h2 (fun _ => RA8) hv with ⟨l', hl', e', q'⟩ | ⟨e', q'⟩
    · exact absurd q' (q l')
    · exact ⟨-9, e, e', Or.inr ⟨rfl, q⟩⟩
theorem bcR.depth (h : bcR g cvd cvr rch cov mrch R) {v : Nat} (hv : v < 8) : mX11_depthOf mrch cov (nI v) = some (mX2_depthOf cvr rch (nI v)) := by
  rw [mX11_depthOf, mX2_depthOf, mX2_isReached, isIn_n _ hv, has_n _ (by omega), h.same]
  by_cases hr : bt mrch v = true
  · rw [if_pos hr, if_pos hr, gd_n hv (by omega), i_cl (by omega), ones_n, Option.bind_some, mX2_coverersOf, h.of hv, bitCount_n (h.2.2.2.2 v hv).1]
  · rw [if_neg hr, if_neg hr]
theorem mby_n (h : mcR cov mrch R) {d : Nat} (hd : d < 8) : ∃ s, mX11_coveredBy cov (nI d) = some s ∧ s8 s ∧ ∀ v, v < 8 → (bt s v = true ↔ Cov R d v) := by
  have key : ∀ (j k fuel : Nat) (acc : Int32), k + j = 8 → j < fuel → s8 acc → (∀ v, v < 8 → (bt acc v = true ↔ v < k ∧ Cov R d v)) → ∃ s, mX11_coveredBy_L4 cov (nI d) fuel acc (nI k) = some s ∧ s8 s ∧ ∀ v, v < 8 → (bt s v = true ↔ Cov R d v) := by
    intro j
    induction j with
    | zero =>
      intro k fuel acc hj hf hs hb
      obtain ⟨m, rfl⟩ := fuel_s hf
      exact ⟨acc, by rw [mX11_coveredBy_L4, if_pos (le8_t (by omega) (by omega))], hs, fun v hv => (hb v hv).trans ⟨fun q => q.2, fun q => ⟨by omega, q⟩⟩⟩
    | succ j ih =>
      intro k fuel acc hj hf hs hb
      obtain ⟨m, rfl⟩ := fuel_s hf
      have hk : k < 8 := by omega
      rw [mX11_coveredBy_L4, if_neg (le8_f hk), gd_n hk (by omega), i_cl (by omega), has_n _ (by omega), nI_1]
      by_cases hc : bt (cov k) d = true
      · rw [if_pos hc]
        refine ih (k + 1) m (acc ||| mX5_only (nI k)) (by omega) (by omega) (s8_or hs (s8_only hk)) fun v hv => ?_
        rw [b_or, only_b (by omega), Bool.or_eq_true, decide_eq_true_eq, hb v hv]
        constructor
        · rintro (q | rfl)
          · exact ⟨by omega, q.2⟩
          · exact ⟨by omega, ((h.2.2 v hv).2 d).mp hc⟩
        · rintro ⟨q1, q2⟩
          rcases Nat.lt_succ_iff_lt_or_eq.mp q1 with z | z
          · exact Or.inl ⟨z, q2⟩
          · exact Or.inr z
      · rw [if_neg hc, or0]
        refine ih (k + 1) m acc (by omega) (by omega) hs fun v hv => (hb v hv).trans ⟨fun q => ⟨by omega, q.2⟩, fun q => ⟨?_, q.2⟩⟩
        rcases Nat.lt_succ_iff_lt_or_eq.mp q.1 with z | z
        · exact z
        · subst z; exact absurd (((h.2.2 v hv).2 d).mpr q.2) hc
  exact key 8 0 kFU 0 rfl (kFU_b (by omega)) s8_0 fun v _ => by rw [b_0]; exact ⟨fun q => (by cases q), fun q => absurd q.1 (Nat.not_lt_zero _)⟩
theorem bcR.cvs (h : bcR g cvd cvr rch cov mrch R) {d : Nat} (hd : d < 8) : mX11_coveredBy cov (nI d) = some (mX2_coveredBy cvd (nI d)) := by
  obtain ⟨s, e, hs, hb⟩ := mby_n h.2.2 hd
  rw [e, mX2_coveredBy]
  congr 1
  obtain ⟨h1, rfl, h2⟩ := h
  exact s8_ext hs (s8_line _ hd) fun i hi => by rw [Bool.eq_iff_iff, hb i hi, h1.cvs hd]
end BOTH
