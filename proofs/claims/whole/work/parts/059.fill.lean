/-! the class's search for the least showing -/
section FL
variable {g cvd cvr : Int64} {rch : Int32}
theorem s8_lt {s : Int32} (h : s8 s) {i : Nat} (hi : bt s i = true) : i < 8 := by
  rcases Nat.lt_or_ge i 8 with q | q
  · exact q
  · rw [h i q] at hi; cases hi
theorem ne0_iff {s : Int32} (h : s8 s) : ¬ s = 0 ↔ ∃ i, i < 8 ∧ bt s i = true := by
  rw [s0_iff h]
  constructor
  · intro q
    refine Classical.byContradiction fun w => q fun i hi => ?_
    exact Bool.eq_false_iff.mpr fun z => w ⟨i, hi, z⟩
  · rintro ⟨i, hi, z⟩ q
    rw [q i hi] at z; cases z
theorem nextBehind_n (h : cvR g cvd cvr rch) {P : Int32} : ∃ s, mX2_nextBehind cvd cvr rch P = some s ∧ s8 s ∧ ∀ v, v < 8 → (bt s v = true ↔ NxS (gE g) (fun x => bt P x = true) v) := by
  have un : ∀ k, k < 8 → (¬ (mX2_coveredBy cvd (nI k) &&& (P ^^^ (-1))) = 0 ↔ ∃ x, Cov (gE g) k x ∧ ¬ bt P x = true) := by
    intro k hk
    rw [mX2_coveredBy, ne0_iff (s8_andl (s8_line _ hk) _)]
    constructor
    · rintro ⟨i, hi, z⟩
      rw [b_and, b_not _ (by omega), Bool.and_eq_true, h.cvs hk, Bool.not_eq_true'] at z
      exact ⟨i, z.1, by rw [z.2]; decide⟩
    · rintro ⟨x, hx, hn⟩
      have h8 := RA8 hx.ra2
      refine ⟨x, h8, ?_⟩
      rw [b_and, b_not _ (by omega), Bool.and_eq_true, h.cvs hk, Bool.not_eq_true']
      exact ⟨hx, Bool.eq_false_iff.mpr hn⟩
  have key : ∀ (j k fuel : Nat) (acc : Int32), k + j = 8 → j < fuel → s8 acc → (∀ v, v < 8 → (bt acc v = true ↔ RA (gE g) v ∧ ¬ bt P v = true ∧ ∀ i, i < k → (bt P i = true → (∃ x, Cov (gE g) i x ∧ ¬ bt P x = true) → Cov (gE g) i v) ∧ (i = v → ∃ l, isLid (gE g) l v ∧ bt P l = true))) → ∃ s, mX2_nextBehind_L11 cvd cvr P fuel acc (nI k) = some s ∧ s8 s ∧ ∀ v, v < 8 → (bt s v = true ↔ NxS (gE g) (fun x => bt P x = true) v) := by
    intro j
    induction j with
    | zero =>
      intro k fuel acc hk hf hs hb
      obtain ⟨m, rfl⟩ := fuel_s hf
      rw [mX2_nextBehind_L11, if_pos (le8_t (by omega) (by omega))]
      refine ⟨acc, rfl, hs, fun v hv => (hb v hv).trans ⟨fun ⟨a, b, c⟩ => ⟨a, b, (c v (by omega)).2 rfl, fun k hk hu => (c k ?_).1 hk hu⟩, fun ⟨a, b, c, d⟩ => ⟨a, b, fun i _ => ⟨fun y z => d i y z, fun y => ?_⟩⟩⟩⟩
      · obtain ⟨x, hx, _⟩ := hu
        have := RA8 hx.ra1; omega
      · exact c
    | succ j ih =>
      intro k fuel acc hk hf hs hb
      obtain ⟨m, rfl⟩ := fuel_s hf
      have hk8 : k < 8 := by omega
      have split : ∀ v, (∀ i, i < k + 1 → (bt P i = true → (∃ x, Cov (gE g) i x ∧ ¬ bt P x = true) → Cov (gE g) i v) ∧ (i = v → ∃ l, isLid (gE g) l v ∧ bt P l = true)) ↔ (∀ i, i < k → (bt P i = true → (∃ x, Cov (gE g) i x ∧ ¬ bt P x = true) → Cov (gE g) i v) ∧ (i = v → ∃ l, isLid (gE g) l v ∧ bt P l = true)) ∧ ((bt P k = true → (∃ x, Cov (gE g) k x ∧ ¬ bt P x = true) → Cov (gE g) k v) ∧ (k = v → ∃ l, isLid (gE g) l v ∧ bt P l = true)) := fun v =>
        ⟨fun q => ⟨fun i hi => q i (by omega), q k (by omega)⟩, fun ⟨q1, q2⟩ i hi => by
          rcases Nat.lt_succ_iff_lt_or_eq.mp hi with z | z
          · exact q1 i z
          · subst z; exact q2⟩
      have lidP : (∃ l, mX2_lidOf cvr (nI k) = some l ∧ (mX5_isIn P l = true ↔ ∃ l, isLid (gE g) l k ∧ bt P l = true)) := by
        rcases lid_n h hk8 with ⟨l, hl, e, hlid⟩ | ⟨e, hno⟩
        · refine ⟨nI l, e, ?_⟩
          rw [isIn_n _ hl]
          refine ⟨fun q => ⟨l, hlid, q⟩, fun ⟨l2, h2, q⟩ => ?_⟩
          have e2 : l2 = l := (hlid.2.2 l2 h2.1 h2.2.1).anti (h2.2.2 l hlid.1 hlid.2.1)
          rw [← e2]; exact q
        · refine ⟨-9, e, ?_⟩
          rw [isIn_9]
          exact ⟨fun q => (by cases q), fun ⟨l, hl, _⟩ => absurd hl (hno l)⟩
      have hF : (¬ (bt P k = true ∧ ∃ x, Cov (gE g) k x ∧ ¬ bt P x = true)) → ∃ s, mX2_nextBehind_J42 (mX2_nextBehind_L11 cvd cvr P m) cvd cvr P acc (nI k) false = some s ∧ s8 s ∧ ∀ v, v < 8 → (bt s v = true ↔ NxS (gE g) (fun x => bt P x = true) v) := by
        intro hu
        obtain ⟨l, el, hl⟩ := lidP
        rw [mX2_nextBehind_J42, if_neg (by decide), el, Option.bind_some, nI_1]
        by_cases hin : mX5_isIn P l = true
        · rw [if_pos hin]
          refine ih (k + 1) m acc (by omega) (by omega) hs fun v hv => ?_
          rw [hb v hv, split v]
          exact ⟨fun ⟨a, b, c⟩ => ⟨a, b, c, fun y z => absurd ⟨y, z⟩ hu, fun y => by subst y; exact hl.mp hin⟩, fun ⟨a, b, c, _⟩ => ⟨a, b, c⟩⟩
        · rw [if_neg hin]
          refine ih (k + 1) m _ (by omega) (by omega) (s8_andl hs _) fun v hv => ?_
          rw [del_b acc hk8 (by omega), Bool.and_eq_true, hb v hv, split v, Bool.not_eq_true', decide_eq_false_iff_not]
          exact ⟨fun ⟨⟨a, b, c⟩, d⟩ => ⟨a, b, c, fun y z => absurd ⟨y, z⟩ hu, fun y => absurd y.symm d⟩, fun ⟨a, b, c, d⟩ => ⟨⟨a, b, c⟩, fun y => by subst y; exact hin (hl.mpr (d.2 rfl))⟩⟩
      rw [mX2_nextBehind_L11, if_neg (le8_f hk8), isIn_n _ hk8]
      by_cases hp : bt P k = true
      · rw [if_pos hp]
        by_cases h0 : (mX2_coveredBy cvd (nI k) &&& (P ^^^ (-1))) = 0
        · rw [if_pos h0]
          exact hF fun q => (un k hk8).mpr q.2 h0
        · rw [if_neg h0, mX2_nextBehind_J42, if_pos rfl, nI_1]
          have hu := (un k hk8).mp h0
          refine ih (k + 1) m _ (by omega) (by omega) (s8_andl hs _) fun v hv => ?_
          rw [b_and, Bool.and_eq_true, hb v hv, split v, mX2_coveredBy, h.cvs hk8]
          exact ⟨fun ⟨⟨a, b, c⟩, d⟩ => ⟨a, b, c, fun _ _ => d, fun y => by subst y; exact absurd hp b⟩, fun ⟨a, b, c, d⟩ => ⟨⟨a, b, c⟩, d.1 hp hu⟩⟩
      · rw [if_neg hp]
        exact hF fun q => hp q.1
  rw [mX2_nextBehind]
  refine key 8 0 kFU _ rfl (kFU_b (by omega)) (s8_andl h.1 _) fun v hv => ?_
  rw [b_and, b_not _ (by omega), Bool.and_eq_true, h.2.1, Bool.not_eq_true', Bool.eq_false_iff]
  exact ⟨fun ⟨a, b⟩ => ⟨a, b, fun i hi => absurd hi (Nat.not_lt_zero _)⟩, fun ⟨a, b, _⟩ => ⟨a, b⟩⟩
theorem isShown_n (h : cvR g cvd cvr rch) {P : Int32} (hP : ∀ x, bt P x = true → RA (gE g) x) {v : Nat} (hv : v < 8) : ∃ b, mX2_isShown g cvd cvr rch (nI v) P = some b ∧ (b = true ↔ ShS (gE g) (fun x => bt P x = true) v) := by
  obtain ⟨c, ec, sc, bc⟩ := column_n g hv
  have hc : ∀ a, a < 8 → (bt c a = true ↔ gE g a v) := fun a ha => by rw [bc a ha]; exact ⟨fun q => ⟨ha, hv, q⟩, fun q => q.2.2⟩
  have lidP : ∃ l, mX2_lidOf cvr (nI v) = some l ∧ (mX5_isIn (c &&& rch) l = true ↔ ∃ l, isLid (gE g) l v ∧ gE g l v) := by
    rcases lid_n h hv with ⟨l, hl, e, hlid⟩ | ⟨e, hno⟩
    · refine ⟨nI l, e, ?_⟩
      rw [isIn_n _ hl, b_and, Bool.and_eq_true, hc l hl, h.2.1]
      refine ⟨fun q => ⟨l, hlid, q.1⟩, fun ⟨l2, h2, q⟩ => ?_⟩
      have e2 : l2 = l := (hlid.2.2 l2 h2.1 h2.2.1).anti (h2.2.2 l hlid.1 hlid.2.1)
      subst e2
      exact ⟨q, hlid.1.ra1⟩
    · refine ⟨-9, e, ?_⟩
      rw [isIn_9]
      exact ⟨fun q => (by cases q), fun ⟨l, hl, _⟩ => absurd hl (hno l)⟩
  obtain ⟨l, el, hl⟩ := lidP
  rw [mX2_isShown, ec, Option.bind_some, el, Option.bind_some]
  by_cases h1 : mX5_isIn (c &&& rch) l = true
  · rw [if_pos h1]
    exact ⟨true, rfl, ⟨fun _ => Or.inl (hl.mp h1), fun _ => rfl⟩⟩
  · rw [if_neg h1]
    have n1 : ¬ ∃ l, isLid (gE g) l v ∧ gE g l v := fun q => h1 (hl.mpr q)
    have e2 : ¬ ((c &&& rch) &&& P) = 0 ↔ ∃ x, bt P x = true ∧ gE g x v := by
      rw [ne0_iff (s8_andl (s8_andl sc _) _)]
      constructor
      · rintro ⟨i, hi, z⟩
        rw [b_and, b_and, Bool.and_eq_true, Bool.and_eq_true, hc i hi] at z
        exact ⟨i, z.2, z.1.1⟩
      · rintro ⟨x, hx, hg⟩
        refine ⟨x, hg.1, ?_⟩
        rw [b_and, b_and, Bool.and_eq_true, Bool.and_eq_true, hc x hg.1, h.2.1]
        exact ⟨⟨hg, hP x hx⟩, hx⟩
    have e3 : ¬ ((c &&& rch) &&& ((rch &&& (P ^^^ (-1))) &&& ((mX2_coveredBy cvd (nI v)) ^^^ (-1)))) = 0 ↔ ∃ y, RA (gE g) y ∧ ¬ bt P y = true ∧ gE g y v ∧ ¬ Cov (gE g) v y := by
      have eb : ∀ i, i < 8 → (bt ((c &&& rch) &&& ((rch &&& (P ^^^ (-1))) &&& ((mX2_coveredBy cvd (nI v)) ^^^ (-1)))) i = true ↔ RA (gE g) i ∧ ¬ bt P i = true ∧ gE g i v ∧ ¬ Cov (gE g) v i) := by
        intro i hi
        rw [b_and, b_and, b_and, b_and, b_not _ (by omega), b_not _ (by omega), Bool.and_eq_true, Bool.and_eq_true, Bool.and_eq_true, Bool.and_eq_true, hc i hi, h.2.1, Bool.not_eq_true', Bool.not_eq_true', Bool.eq_false_iff, Bool.eq_false_iff, mX2_coveredBy, ne_eq, ne_eq, h.cvs hv]
        exact ⟨fun ⟨⟨a, b⟩, ⟨_, d⟩, e⟩ => ⟨b, d, a, e⟩, fun ⟨b, d, a, e⟩ => ⟨⟨a, b⟩, ⟨b, d⟩, e⟩⟩
      rw [ne0_iff (s8_andl (s8_andl sc _) _)]
      exact ⟨fun ⟨i, hi, z⟩ => ⟨i, (eb i hi).mp z⟩, fun ⟨y, z⟩ => ⟨y, RA8 z.1, (eb y (RA8 z.1)).mpr z⟩⟩
    by_cases h2 : ((c &&& rch) &&& P) = 0
    · rw [if_pos h2]
      exact ⟨false, rfl, ⟨fun q => (by cases q), fun q => by
        rcases q with q | ⟨q, _⟩
        · exact absurd q n1
        · exact absurd h2 (e2.mpr q)⟩⟩
    · rw [if_neg h2]
      by_cases h3 : ((c &&& rch) &&& ((rch &&& (P ^^^ (-1))) &&& ((mX2_coveredBy cvd (nI v)) ^^^ (-1)))) = 0
      · rw [if_pos h3]
        exact ⟨false, rfl, ⟨fun q => (by cases q), fun q => by
          rcases q with q | ⟨_, q⟩
          · exact absurd q n1
          · exact absurd h3 (e3.mpr q)⟩⟩
      · rw [if_neg h3]
        exact ⟨true, rfl, ⟨fun _ => Or.inr ⟨e2.mp h2, e3.mp h3⟩, fun _ => rfl⟩⟩
def deadR (g : Int64) (ds : Int32) (df : Nat → Int32) : Prop := ∃ dl, rowR 128 ds df dl ∧ ∀ d, d ∈ dl → ∀ q, ¬ Ext (gE g) (fun x => bt d x = true) q
theorem fill_n (h : cvR g cvd cvr rch) : ∀ (n : Nat) (p : List Nat) (P rs ds : Int32) (rf df : Nat → Int32), 10 ≤ n + p.length → p.Nodup → (∀ x, x ∈ p → RA (gE g) x) → rowR 8 rs rf (p.map nI) → deadR g ds df → s8 P → (∀ x, bt P x = true ↔ x ∈ p) → ∃ b rs' rf' ds' df', mX7_fill g cvd cvr rch n P (nI p.length) rs rf ds df = some (b, rs', rf', ds', df') ∧ deadR g ds' df' ∧ ((b = true ∧ ∃ q, Ext (gE g) (fun x => x ∈ p) q ∧ (∀ q2, Ext (gE g) (fun x => x ∈ p) q2 → LLe q q2) ∧ rowR 8 rs' rf' ((p ++ q).map nI)) ∨ (b = false ∧ (∀ q, ¬ Ext (gE g) (fun x => x ∈ p) q) ∧ rowR 8 rs' rf' (p.map nI))) := by
  intro n
  induction n with
  | zero =>
    intro p P rs ds rf df hn hnd hra
    have := nodup8 hnd (fun x hx => RA8 (hra x hx))
    omega
  | succ n ih =>
    intro p P rs ds rf df hn hnd hra hr hd hs hb
    have hp8 := nodup8 hnd (fun x hx => RA8 (hra x hx))
    have hSp : (fun x => bt P x = true) = (fun x => x ∈ p) := funext fun x => propext (hb x)
    rw [mX7_fill]
    by_cases hfull : P = rch
    · rw [if_pos hfull]
      refine ⟨true, rs, rf, ds, df, rfl, hd, Or.inl ⟨rfl, [], fun v hv => ?_, fun _ _ => trivial, by rw [List.append_nil]; exact hr⟩⟩
      show v ∈ p
      rw [← hb v, hfull]; exact (h.2.1 v).mpr hv
    · have hnf : ¬ Ext (gE g) (fun x => x ∈ p) [] := fun q => hfull (s8_ext hs h.1 fun i _ => by
        have : bt P i = true ↔ bt rch i = true := by
          rw [hb i, h.2.1 i]
          exact ⟨hra i, q i⟩
        cases h1 : bt P i <;> cases h2 : bt rch i <;> simp [h1, h2] at this ⊢)
      have hlt : p.length < 8 := by
        rcases Nat.lt_or_ge p.length 8 with q | q
        · exact q
        · exfalso
          refine hnf fun v hv => Classical.byContradiction fun z => ?_
          have : (v :: p).length ≤ 8 := nodup8 (List.nodup_cons.mpr ⟨z, hnd⟩) (fun x hx => by
            rcases List.mem_cons.mp hx with y | y
            · subst y; exact RA8 hv
            · exact RA8 (hra x y))
          rw [List.length_cons] at this
          omega
      rw [if_neg hfull, if_neg (le8_f hlt)]
      obtain ⟨dl, hdl, hdead⟩ := hd
      rw [placeOf_n hdl, Option.bind_some]
      by_cases hin : plc dl P = -9
      · rw [if_pos hin]
        obtain ⟨s, es, ss, bs⟩ := nextBehind_n h (P := P)
        rw [es, Option.bind_some]
        have key : ∀ (j k fuel : Nat) (rs ds : Int32) (rf df : Nat → Int32), k + j = 8 → j < fuel → rowR 8 rs rf (p.map nI) → deadR g ds df → (∀ v, v < k → ∀ q, ¬ Ext (gE g) (fun x => x ∈ p) (v :: q)) → ∃ b rs' rf' ds' df', mX7_fill_L41 (mX7_fill g cvd cvr rch n) g cvd cvr rch P (nI p.length) s fuel (nI k) rs rf ds df = some (b, rs', rf', ds', df') ∧ deadR g ds' df' ∧ ((b = true ∧ ∃ q, Ext (gE g) (fun x => x ∈ p) q ∧ (∀ q2, Ext (gE g) (fun x => x ∈ p) q2 → LLe q q2) ∧ rowR 8 rs' rf' ((p ++ q).map nI)) ∨ (b = false ∧ (∀ q, ¬ Ext (gE g) (fun x => x ∈ p) q) ∧ rowR 8 rs' rf' (p.map nI))) := by
          intro j
          induction j with
          | zero =>
            intro k fuel rs ds rf df hk hf hr ⟨dl, hdl, hdead⟩ hno
            obtain ⟨m, rfl⟩ := fuel_s hf
            have none : ∀ q, ¬ Ext (gE g) (fun x => x ∈ p) q := by
              intro q hq
              cases q with
              | nil => exact hnf hq
              | cons v q => exact hno v (by have := RA8 hq.1.1; omega) q hq
            rw [mX7_fill_L41, if_pos (le8_t (by omega) (by omega)), mX7_fill_J111]
            rcases Nat.lt_or_ge dl.length 128 with z | z
            · obtain ⟨df2, e2, r2⟩ := add_n hdl z P
              rw [e2, Option.bind_some]
              refine ⟨false, rs, rf, _, df2, rfl, ⟨_, r2, fun d hd q => ?_⟩, Or.inr ⟨rfl, none, hr⟩⟩
              rcases List.mem_append.mp hd with y | y
              · exact hdead d y q
              · rw [List.mem_singleton] at y
                rw [y, hSp]; exact none q
            · rw [add_no hdl z, Option.bind_some]
              exact ⟨false, rs, rf, ds, df, rfl, ⟨dl, hdl, hdead⟩, Or.inr ⟨rfl, none, hr⟩⟩
          | succ j ihj =>
            intro k fuel rs ds rf df hk hf hr hd hno
            obtain ⟨m, rfl⟩ := fuel_s hf
            have hk8 : k < 8 := by omega
            have hskip : (∀ q, ¬ Ext (gE g) (fun x => x ∈ p) (k :: q)) → ∀ v, v < k + 1 → ∀ q, ¬ Ext (gE g) (fun x => x ∈ p) (v :: q) := fun z v hv => by
              rcases Nat.lt_succ_iff_lt_or_eq.mp hv with y | y
              · exact hno v y
              · subst y; exact z
            rw [mX7_fill_L41, if_neg (le8_f hk8), isIn_n _ hk8]
            simp only [nI_1]
            by_cases hnx : bt s k = true
            · rw [if_pos hnx]
              have hN := (bs k hk8).mp hnx
              rw [hSp] at hN
              obtain ⟨b, eb, hbs⟩ := isShown_n h (P := P) (fun x hx => hra x ((hb x).mp hx)) hk8
              rw [hSp] at hbs
              rw [eb, Option.bind_some]
              by_cases hb1 : b = true
              · rw [if_pos hb1]
                have hS := hbs.mp hb1
                obtain ⟨rf2, e2, r2⟩ := add_n hr (by rw [List.length_map]; exact hlt) (nI k)
                rw [e2, Option.bind_some]
                have hkp : k ∉ p := hN.2.1
                have hr3 : rowR 8 (nI ((p.map nI).length + 1)) rf2 ((p ++ [k]).map nI) := by rw [List.map_append]; exact r2
                obtain ⟨b3, rs3, rf3, ds3, df3, e3, d3, o3⟩ := ih (p ++ [k]) (P ||| mX5_only (nI k)) _ ds rf2 df (by rw [List.length_append, List.length_singleton]; omega) (by
                  rw [List.nodup_append]
                  exact ⟨hnd, nodup1 _, fun x hx y hy z => by rw [List.mem_singleton] at hy; subst hy; subst z; exact hkp hx⟩) (fun x hx => by
                  rcases List.mem_append.mp hx with z | z
                  · exact hra x z
                  · rw [List.mem_singleton] at z; rw [z]; exact hN.1) hr3 hd (s8_or hs (s8_only hk8)) (fun x => by
                  rw [b_or, Bool.or_eq_true, hb x, only_b (by omega), decide_eq_true_eq, List.mem_append, List.mem_singleton])
                rw [List.length_append, List.length_singleton] at e3
                dsimp only
                rw [e3, Option.bind_some]
                have hSk : (fun x => x ∈ p ++ [k]) = (fun x => x ∈ p ∨ x = k) := funext fun x => propext (by rw [List.mem_append, List.mem_singleton])
                rw [hSk] at o3
                rcases o3 with ⟨rfl, q, q1, q2, q3⟩ | ⟨rfl, q1, q2⟩
                · rw [if_pos rfl]
                  refine ⟨true, rs3, rf3, ds3, df3, rfl, d3, Or.inl ⟨rfl, k :: q, ⟨hN, hS, q1⟩, fun w hw => ?_, by rw [List.append_assoc] at q3; exact q3⟩⟩
                  cases w with
                  | nil => exact absurd hw hnf
                  | cons v w =>
                    rcases Nat.lt_or_ge v k with z | z
                    · exact absurd hw (hno v z w)
                    · rcases Nat.lt_or_ge k v with y | y
                      · exact Or.inl y
                      · have hvk : v = k := by omega
                        subst hvk
                        exact Or.inr ⟨rfl, q2 w hw.2.2⟩
                · rw [if_neg Bool.false_ne_true]
                  have q2' : rowR 8 rs3 rf3 (p.map nI ++ [nI k]) := by rw [List.map_append] at q2; exact q2
                  obtain ⟨rf4, e4, r4⟩ := takeLast_n q2'
                  dsimp only
                  rw [e4, Option.bind_some]
                  exact ihj (k + 1) m _ ds3 rf4 df3 (by omega) (by omega) r4 d3 (hskip fun q hq => q1 q hq.2.2)
              · rw [if_neg hb1]
                exact ihj (k + 1) m rs ds rf df (by omega) (by omega) hr hd (hskip fun q hq => hb1 (hbs.mpr hq.2.1))
            · rw [if_neg hnx]
              exact ihj (k + 1) m rs ds rf df (by omega) (by omega) hr hd (hskip fun q hq => hnx ((bs k hk8).mpr (by rw [hSp]; exact hq.1)))
        exact key 8 0 kFU rs ds rf df rfl (kFU_b (by omega)) hr ⟨dl, hdl, hdead⟩ fun v hv => absurd hv (Nat.not_lt_zero _)
      · rw [if_neg hin]
        have hm : P ∈ dl := Classical.byContradiction fun z => hin (by unfold plc; rw [if_neg z])
        refine ⟨false, rs, rf, ds, df, rfl, ⟨dl, hdl, hdead⟩, Or.inr ⟨rfl, fun q hq => hdead P hm q (by rw [hSp]; exact hq), hr⟩⟩
theorem find_n (h : cvR g cvd cvr rch) (rs ds : Int32) (rf df : Nat → Int32) : ∃ rs' rf' ds' df' T, mX7_find rs rf ds df g cvd cvr rch = some (rs', rf', ds', df') ∧ rowR 8 rs' rf' (T.map nI) ∧ isLeast (gE g) T := by
  obtain ⟨rf2, e2, r2⟩ := add_n (n := 8) (sz := 0) (f := rf) (xs := []) (rowR.nil (by omega)) (by simp) (nI 0)
  have hs0 : (fun x => x ∈ [0]) = (fun x : Nat => x = 0) := funext fun x => propext List.mem_singleton
  obtain ⟨b, rs3, rf3, ds3, df3, e3, d3, o3⟩ := fill_n h 12 [0] (mX5_only (nI 0)) _ 0 rf2 df (by simp) (nodup1 0) (fun x hx => by rw [List.mem_singleton] at hx; rw [hx]; exact RA.root) r2 ⟨[], rowR.nil (by omega), fun d hd => absurd hd List.not_mem_nil⟩ (s8_only (by omega)) (fun x => by rw [only_b (by omega), decide_eq_true_eq, List.mem_singleton])
  rw [hs0] at o3
  obtain ⟨T0, hT0⟩ := vrow_ex (E := gE g) (fun d hd => RA8 hd)
  obtain ⟨q0, -, hq0⟩ := vrow_iff.mp hT0
  rcases o3 with ⟨rfl, q, q1, q2, q3⟩ | ⟨_, q1, _⟩
  · refine ⟨rs3, rf3, ds3, df3, 0 :: q, ?_, q3, vrow_of_ext q1, fun T' hT' => ?_⟩
    · rw [mX7_find, mX6_clear, mX6_clear]
      have e2' : mX6_add 8 0 rf 0 = _ := e2
      have e3' : mX7_fill g cvd cvr rch 12 (mX5_only 0) 1 _ rf2 0 df = _ := e3
      rw [e2', Option.bind_some, e3', Option.bind_some]
    · obtain ⟨q', rfl, h'⟩ := vrow_iff.mp hT'
      exact Or.inr ⟨rfl, q2 q' h'⟩
  · exact absurd hq0 (q1 q0)
end FL
