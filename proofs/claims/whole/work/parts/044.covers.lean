/-! the class's Covers: what it learns of a grid -/
theorem Rch.congr {E : Nat → Nat → Prop} {D D' : Nat → Prop} (h : ∀ y, D y ↔ D' y) (v : Nat) : Rch E D v ↔ Rch E D' v :=
  ⟨fun q S h0 hs => q S (fun z => h0 (fun w => z ((h 0).mpr w))) (fun x y hx e hy => hs x y hx e (fun w => hy ((h y).mpr w))),
   fun q S h0 hs => q S (fun z => h0 (fun w => z ((h 0).mp w))) (fun x y hx e hy => hs x y hx e (fun w => hy ((h y).mp w)))⟩
theorem le8_t {k : Nat} (h : 8 ≤ k) (hk : k < 2 ^ 31) : (8 : Int32) ≤ nI k := (nI_leI (a := 8) (by omega) hk).mpr h
theorem le8_f {k : Nat} (h : k < 8) : ¬ (8 : Int32) ≤ nI k := fun q => by have := (nI_leI (a := 8) (by omega) (by omega)).mp q; omega
theorem column_n (g : Int64) {k : Nat} (hk : k < 8) : ∃ c, mX5_column g (nI k) = some c ∧ s8 c ∧ ∀ v, v < 8 → bt c v = gb g (8 * v + k) := by
  have key : ∀ (j st fuel : Nat) (acc : Int32), st + j = 8 → j < fuel → s8 acc → (∀ v, v < 8 → bt acc v = (decide (v < st) && gb g (8 * v + k))) → ∃ c, mX5_column_L5 g (nI k) fuel acc (nI st) = some c ∧ s8 c ∧ ∀ v, v < 8 → bt c v = gb g (8 * v + k) := by
    intro j
    induction j with
    | zero =>
      intro st fuel acc hj hf hs hb
      obtain ⟨m, rfl⟩ := fuel_s hf
      refine ⟨acc, by rw [mX5_column_L5, if_pos (le8_t (by omega) (by omega))], hs, fun v hv => ?_⟩
      rw [hb v hv, decide_eq_true (by omega), Bool.true_and]
    | succ j ih =>
      intro st fuel acc hj hf hs hb
      obtain ⟨m, rfl⟩ := fuel_s hf
      rw [mX5_column_L5, if_neg (le8_f (by omega)), isIn_n _ hk, line_b g (by omega), decide_eq_true hk, Bool.true_and, nI_1]
      by_cases hg : gb g (8 * st + k) = true
      · rw [if_pos hg]
        refine ih (st + 1) m _ (by omega) (by omega) (s8_or hs (s8_only (by omega))) fun v hv => ?_
        rw [b_or, only_b (by omega), hb v hv]
        by_cases hvs : v = st
        · subst hvs; rw [hg]; simp
        · rw [decide_eq_false hvs, Bool.or_false]
          congr 1
          exact decide_eq_decide.mpr ⟨fun _ => by omega, fun _ => by omega⟩
      · rw [if_neg hg]
        refine ih (st + 1) m _ (by omega) (by omega) hs fun v hv => ?_
        rw [hb v hv]
        by_cases hvs : v = st
        · subst hvs; rw [Bool.eq_false_iff.mpr hg]; simp
        · congr 1
          exact decide_eq_decide.mpr ⟨fun _ => by omega, fun _ => by omega⟩
  exact key 8 0 kFU 0 rfl (kFU_b (by omega)) s8_0 (fun v _ => by rw [b_0]; simp)
theorem turned_n (g : Int64) : ∃ t, mX5_turned g = some t ∧ ∀ a b, a < 8 → b < 8 → gb t (8 * a + b) = gb g (8 * b + a) := by
  have key : ∀ (j st fuel : Nat) (acc : Int64), st + j = 8 → j < fuel → (∀ a b, a < 8 → b < 8 → gb acc (8 * a + b) = (decide (a < st) && gb g (8 * b + a))) → ∃ t, mX5_turned_L5 g fuel acc (nI st) = some t ∧ ∀ a b, a < 8 → b < 8 → gb t (8 * a + b) = gb g (8 * b + a) := by
    intro j
    induction j with
    | zero =>
      intro st fuel acc hj hf hb
      obtain ⟨m, rfl⟩ := fuel_s hf
      refine ⟨acc, by rw [mX5_turned_L5, if_pos (le8_t (by omega) (by omega))], fun a b ha hb2 => ?_⟩
      rw [hb a b ha hb2, decide_eq_true (by omega), Bool.true_and]
    | succ j ih =>
      intro st fuel acc hj hf hb
      obtain ⟨m, rfl⟩ := fuel_s hf
      obtain ⟨c, ec, sc, bc⟩ := column_n g (k := st) (by omega)
      rw [mX5_turned_L5, if_neg (le8_f (by omega)), ec, Option.bind_some, nI_1]
      refine ih (st + 1) m _ (by omega) (by omega) fun a b ha hb2 => ?_
      rw [withLine_s acc (by omega) sc (by omega)]
      by_cases has : a = st
      · subst has
        rw [if_pos (by omega), show 8 * a + b - 8 * a = b by omega, bc b hb2]; simp
      · rw [if_neg (by omega), hb a b ha hb2]
        congr 1
        exact decide_eq_decide.mpr ⟨fun _ => by omega, fun _ => by omega⟩
  exact key 8 0 kFU 0 rfl (kFU_b (by omega)) (fun a b _ _ => by rw [gb_0]; simp)
/-- what a Covers holds of its grid -/
def cvR (g cvd cvr : Int64) (rch : Int32) : Prop := s8 rch ∧ (∀ v, bt rch v = true ↔ RA (gE g) v) ∧ (∀ d v, d < 8 → v < 8 → (gb cvd (8 * d + v) = true ↔ Cov (gE g) d v)) ∧ (∀ d v, d < 8 → v < 8 → (gb cvr (8 * v + d) = true ↔ Cov (gE g) d v))
theorem learn_n (k1 k2 k3 : Int64) (k4 : Int32) (g : Int64) : ∃ cvd cvr rch, mX2_learn k1 k2 k3 k4 g = some (g, cvd, cvr, rch) ∧ cvR g cvd cvr rch := by
  obtain ⟨rch, er, sr, br⟩ := reached_n g s8_0
  have br : ∀ v, bt rch v = true ↔ RA (gE g) v := fun v => (br v).trans (Rch.congr (fun y => by rw [b_0]; exact ⟨fun h => (by cases h), False.elim⟩) v)
  have key : ∀ (j st fuel : Nat) (w : Int64), st + j = 8 → j < fuel → (∀ d v, d < 8 → v < 8 → (gb w (8 * d + v) = true ↔ d < st ∧ Cov (gE g) d v)) → ∃ w', mX2_learn_L21 g rch fuel (nI st) w = mX2_learn_J72 g rch w' ∧ ∀ d v, d < 8 → v < 8 → (gb w' (8 * d + v) = true ↔ Cov (gE g) d v) := by
    intro j
    induction j with
    | zero =>
      intro st fuel w hj hf hw
      obtain ⟨m, rfl⟩ := fuel_s hf
      refine ⟨w, by rw [mX2_learn_L21, if_pos (le8_t (by omega) (by omega))], fun d v hd hv => (hw d v hd hv).trans ⟨fun h => h.2, fun h => ⟨by omega, h⟩⟩⟩
    | succ j ih =>
      intro st fuel w hj hf hw
      obtain ⟨m, rfl⟩ := fuel_s hf
      rw [mX2_learn_L21, if_neg (le8_f (by omega)), mX2_isReached, isIn_n _ (by omega), nI_1]
      by_cases hr : bt rch st = true
      · rw [if_pos hr]
        obtain ⟨lf, el, sl, bl⟩ := reached_n g (s8_only (k := st) (by omega))
        have bl : ∀ v, bt lf v = true ↔ Rd (gE g) st v := fun v => (bl v).trans (Rch.congr (fun y => by rw [only_b (by omega), decide_eq_true_eq]) v)
        rw [el, Option.bind_some]
        refine ih (st + 1) m _ (by omega) (by omega) fun d v hd hv => ?_
        rw [withLine_s w (by omega) (s8_andl sr _) (by omega)]
        by_cases hds : d = st
        · subst hds
          rw [if_pos (by omega), show 8 * d + v - 8 * d = v by omega, b_and, b_not _ (by omega), Bool.and_eq_true, Bool.not_eq_true', br v]
          constructor
          · rintro ⟨h1, h2⟩
            exact ⟨by omega, (br d).mp hr, h1, fun q => by rw [(bl v).mpr q] at h2; cases h2⟩
          · rintro ⟨-, h1⟩
            exact ⟨h1.2.1, Bool.eq_false_iff.mpr fun q => h1.2.2 ((bl v).mp q)⟩
        · rw [if_neg (by omega), hw d v hd hv]
          exact ⟨fun h => ⟨by omega, h.2⟩, fun h => ⟨by omega, h.2⟩⟩
      · rw [if_neg hr]
        refine ih (st + 1) m _ (by omega) (by omega) fun d v hd hv => (hw d v hd hv).trans ⟨fun h => ⟨by omega, h.2⟩, fun h => ⟨?_, h.2⟩⟩
        rcases Nat.lt_succ_iff_lt_or_eq.mp h.1 with q | q
        · exact q
        · exact absurd ((br st).mpr (by rw [← q]; exact h.2.1)) hr
  obtain ⟨w, ew, bw⟩ := key 8 0 kFU 0 rfl (kFU_b (by omega)) (fun d v _ _ => by rw [gb_0]; exact ⟨fun h => (by cases h), fun h => absurd h.1 (Nat.not_lt_zero _)⟩)
  obtain ⟨t, et, bt'⟩ := turned_n w
  refine ⟨w, t, rch, ?_, sr, br, bw, fun d v hd hv => by rw [bt' v d hv hd]; exact bw d v hd hv⟩
  rw [mX2_learn, er, Option.bind_some, show (0 : Int32) = nI 0 from rfl, ew, mX2_learn_J72, et, Option.bind_some]
section CV
variable {g cvd cvr : Int64} {rch : Int32}
theorem gE_b {a b : Nat} (h : gE g a b) : a < 8 ∧ b < 8 := ⟨h.1, h.2.1⟩
theorem RA8 {v : Nat} (h : RA (gE g) v) : v < 8 := h (fun v => v < 8) (fun _ => by omega) (fun _ _ _ e _ => e.2.1)
theorem cvR.cvs (h : cvR g cvd cvr rch) {d : Nat} (hd : d < 8) (v : Nat) : bt (mX5_line cvd (nI d)) v = true ↔ Cov (gE g) d v := by
  rw [line_b cvd hd, Bool.and_eq_true, decide_eq_true_eq]
  exact ⟨fun q => (h.2.2.1 d v hd q.1).mp q.2, fun q => ⟨RA8 q.ra2, (h.2.2.1 d v hd (RA8 q.ra2)).mpr q⟩⟩
theorem cvR.of (h : cvR g cvd cvr rch) {v : Nat} (hv : v < 8) (d : Nat) : bt (mX5_line cvr (nI v)) d = true ↔ Cov (gE g) d v := by
  rw [line_b cvr hv, Bool.and_eq_true, decide_eq_true_eq]
  exact ⟨fun q => (h.2.2.2 d v q.1 hv).mp q.2, fun q => ⟨RA8 q.ra1, (h.2.2.2 d v (RA8 q.ra1) hv).mpr q⟩⟩
/-- the knot that just a set covers -/
theorem just_n (h : cvR g cvd cvr rch) {s : Int32} (hs : s8 s) : (∃ l, l < 8 ∧ mX2_coveredByJust cvr s = some (nI l) ∧ s ≠ 0 ∧ ∀ d, bt s d = true ↔ Cov (gE g) d l) ∨ (mX2_coveredByJust cvr s = some (-9) ∧ ∀ l, l < 8 → s ≠ 0 → ¬ ∀ d, bt s d = true ↔ Cov (gE g) d l) := by
  have hl : ∀ l, l < 8 → (mX5_line cvr (nI l) = s ↔ ∀ d, bt s d = true ↔ Cov (gE g) d l) := by
    intro l hl
    constructor
    · intro e d; rw [← e]; exact h.of hl d
    · intro e
      refine s8_ext (s8_line cvr hl) hs fun i _ => ?_
      rw [Bool.eq_iff_iff, h.of hl i, e i]
  have key : ∀ (j st fuel : Nat), st + j = 8 → j < fuel → (∀ l, l < st → s ≠ 0 → ¬ ∀ d, bt s d = true ↔ Cov (gE g) d l) → (∃ l, l < 8 ∧ mX2_coveredByJust_L2 cvr s fuel (nI st) = some (nI l) ∧ s ≠ 0 ∧ ∀ d, bt s d = true ↔ Cov (gE g) d l) ∨ (mX2_coveredByJust_L2 cvr s fuel (nI st) = some (-9) ∧ ∀ l, l < 8 → s ≠ 0 → ¬ ∀ d, bt s d = true ↔ Cov (gE g) d l) := by
    intro j
    induction j with
    | zero =>
      intro st fuel hj hf hn
      obtain ⟨m, rfl⟩ := fuel_s hf
      exact Or.inr ⟨by rw [mX2_coveredByJust_L2, if_pos (le8_t (by omega) (by omega))], fun l hl => hn l (by omega)⟩
    | succ j ih =>
      intro st fuel hj hf hn
      obtain ⟨m, rfl⟩ := fuel_s hf
      rw [mX2_coveredByJust_L2, if_neg (le8_f (by omega)), nI_1]
      by_cases h0 : s = 0
      · rw [if_pos h0]
        exact ih (st + 1) m (by omega) (by omega) fun l _ q => absurd h0 q
      · rw [if_neg h0]
        by_cases he : mX5_line cvr (nI st) = s
        · rw [if_pos he]
          exact Or.inl ⟨st, by omega, rfl, h0, (hl st (by omega)).mp he⟩
        · rw [if_neg he]
          refine ih (st + 1) m (by omega) (by omega) fun l hlt q => ?_
          rcases Nat.lt_succ_iff_lt_or_eq.mp hlt with z | z
          · exact hn l z q
          · subst z; exact fun w => he ((hl l (by omega)).mpr w)
  exact key 8 0 kFU rfl (kFU_b (by omega)) fun l hl => absurd hl (Nat.not_lt_zero _)
/-- the lid of a knot, as the class finds it -/
theorem lid_n (h : cvR g cvd cvr rch) {v : Nat} (hv : v < 8) : (∃ l, l < 8 ∧ mX2_lidOf cvr (nI v) = some (nI l) ∧ isLid (gE g) l v) ∨ (mX2_lidOf cvr (nI v) = some (-9) ∧ ∀ l, ¬ isLid (gE g) l v) := by
  have hs : s8 (mX2_coverersOf cvr (nI v) &&& (mX5_only (nI v) ^^^ (-1))) := s8_andl (s8_line cvr hv) _
  have hb : ∀ d, bt (mX2_coverersOf cvr (nI v) &&& (mX5_only (nI v) ^^^ (-1))) d = true ↔ Cov (gE g) d v ∧ d ≠ v := by
    intro d
    rcases Nat.lt_or_ge d 32 with q | q
    · rw [mX2_coverersOf, b_and, b_not _ q, only_b (by omega), Bool.and_eq_true, Bool.not_eq_true', decide_eq_false_iff_not, h.of hv]
    · rw [b_big q]
      exact ⟨fun z => (by cases z), fun z => by have := RA8 z.1.ra1; omega⟩
  unfold mX2_lidOf
  rcases just_n h hs with ⟨l, hl, e, h0, hc⟩ | ⟨e, hn⟩
  · refine Or.inl ⟨l, hl, by rw [e]; rfl, ?_⟩
    have hra : RA (gE g) l := by
      refine Classical.byContradiction fun q => h0 ((s0_iff hs).mpr fun i _ => Bool.eq_false_iff.mpr fun z => q ((hc i).mp z).ra2)
    have hself := (hb l).mp ((hc l).mpr (Cov.self hra))
    exact ⟨hself.1, hself.2, fun d hd hne => (hc d).mp ((hb d).mpr ⟨hd, hne⟩)⟩
  · refine Or.inr ⟨by rw [e]; rfl, fun l hlid => ?_⟩
    have hl8 := RA8 hlid.1.ra1
    refine hn l hl8 (fun z => ?_) fun d => ?_
    · have := (hb l).mpr ⟨hlid.1, hlid.2.1⟩
      rw [z, b_0] at this
      cases this
    · rw [hb d]
      constructor
      · rintro ⟨a, b⟩; exact hlid.2.2 d a b
      · intro a
        exact ⟨a.trans hlid.1, fun q => hlid.2.1 (by subst q; exact hlid.1.anti a)⟩
end CV
