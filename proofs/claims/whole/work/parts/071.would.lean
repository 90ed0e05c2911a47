/-! lists of edges, one more and one less -/
theorem okE.app {E : List (Nat × Nat)} (hE : okE E) (hl : E.length < 24) {s a b : Nat} (hs : s < 1000000) (ha : a < 8) (hb : b < 8) (hab : a ≠ b) (hp : 10 * a + b ∉ ePr E) : okE (E ++ [(s, 10 * a + b)]) := by
  refine ⟨by rw [List.length_append]; simp; omega, fun e he => ?_, ?_⟩
  · rcases List.mem_append.mp he with h | h
    · exact hE.2.1 e h
    · rw [List.mem_singleton] at h; subst h
      exact ⟨hs, by dsimp only; omega, by dsimp only; omega, by dsimp only; omega⟩
  · rw [List.map_append, List.nodup_append]
    refine ⟨hE.2.2, by simp, fun x hx y hy => ?_⟩
    have hy' : y = 10 * a + b := by simpa using hy
    subst hy'
    exact fun q => hp (q ▸ hx)
theorem okE.era {E : List (Nat × Nat)} (hE : okE E) (k : Nat) : okE (E.eraseIdx k) := by
  refine ⟨Nat.le_trans (List.length_eraseIdx_le ..) hE.1, fun e he => hE.2.1 e (List.mem_of_mem_eraseIdx he), ?_⟩
  rw [map_erase]
  exact hE.2.2.sublist (List.eraseIdx_sublist ..)
theorem okE.del {E : List (Nat × Nat)} (hE : okE E) (p : Nat) : okE (delE E p) := hE.era _
theorem ePr_app (E : List (Nat × Nat)) (s p : Nat) : ePr (E ++ [(s, p)]) = ePr E ++ [p] := by rw [ePr, List.map_append]; rfl
theorem ePr_del {E : List (Nat × Nat)} (p : Nat) : ePr (delE E p) = (ePr E).erase p := by
  rw [delE, ePr, map_erase, ← ePr, List.erase_eq_eraseIdx_of_idxOf rfl]
theorem mem_del {E : List (Nat × Nat)} (hE : okE E) {p q : Nat} : q ∈ ePr (delE E p) ↔ q ∈ ePr E ∧ q ≠ p := by
  have hn : (ePr E).Nodup := hE.2.2
  rw [ePr_del, hn.mem_erase_iff]
  exact And.comm
theorem mem_app {E : List (Nat × Nat)} {s p q : Nat} : q ∈ ePr (E ++ [(s, p)]) ↔ q ∈ ePr E ∨ q = p := by
  rw [ePr_app, List.mem_append, List.mem_singleton]
theorem del_len {E : List (Nat × Nat)} {p : Nat} (hp : p ∈ ePr E) : (delE E p).length = E.length - 1 := by
  rw [delE, List.length_eraseIdx_of_lt]
  have := List.idxOf_lt_length_of_mem hp
  rwa [ePr, List.length_map] at this
theorem idx_lt {E : List (Nat × Nat)} {p : Nat} (hp : p ∈ ePr E) : (ePr E).idxOf p < E.length := by
  have := List.idxOf_lt_length_of_mem hp
  rwa [ePr, List.length_map] at this
/-- one edge turned: there if it was not, gone if it was -/
def flE (E : List (Nat × Nat)) (s p : Nat) : List (Nat × Nat) := if p ∈ ePr E then delE E p else E ++ [(s, p)]
theorem mem_fl {E : List (Nat × Nat)} (hE : okE E) {s p q : Nat} : q ∈ ePr (flE E s p) ↔ ((q ∈ ePr E ∧ q ≠ p) ∨ (q ∉ ePr E ∧ q = p)) := by
  unfold flE
  by_cases hp : p ∈ ePr E
  · rw [if_pos hp, mem_del hE]
    exact ⟨fun h => Or.inl h, fun h => h.elim id fun h => absurd (h.2 ▸ hp) h.1⟩
  · rw [if_neg hp, mem_app]
    constructor
    · rintro (h | h)
      · exact Or.inl ⟨h, fun e => hp (e ▸ h)⟩
      · exact Or.inr ⟨h ▸ hp, h⟩
    · rintro (h | h)
      · exact Or.inl h.1
      · exact Or.inr h.2
theorem ok_fl {E : List (Nat × Nat)} (hE : okE E) {s a b : Nat} (hs : s < 1000000) (ha : a < 8) (hb : b < 8) (hab : a ≠ b) (hl : 10 * a + b ∈ ePr E ∨ E.length < 24) : okE (flE E s (10 * a + b)) := by
  unfold flE
  by_cases hp : 10 * a + b ∈ ePr E
  · rw [if_pos hp]; exact hE.del _
  · rw [if_neg hp]; exact hE.app (hl.resolve_left hp) hs ha hb hab hp
theorem gE_fl {g : Int64} {E : List (Nat × Nat)} (hE : okE E) (hg : gE g = pE (ePr E)) (s : Nat) {a b : Nat} (ha : a < 8) (hb : b < 8) : gE (mX5_flipped g (nI a) (nI b)) = pE (ePr (flE E s (10 * a + b))) := by
  funext x y
  rw [eq_iff_iff]
  unfold gE pE
  by_cases hx : x < 8
  · by_cases hy : y < 8
    · have e : gb g (8 * x + y) = true ↔ 10 * x + y ∈ ePr E := by
        have := iff_of_eq (congrFun (congrFun hg x) y)
        unfold gE pE at this
        exact ⟨fun q => (this.mp ⟨hx, hy, q⟩).2.2, fun q => (this.mpr ⟨hx, hy, q⟩).2.2⟩
      have e2 : (8 * x + y = 8 * a + b) ↔ (10 * x + y = 10 * a + b) := by omega
      rw [flipped_b g (by omega) (by omega), mem_fl hE]
      constructor
      · rintro ⟨-, -, q⟩
        refine ⟨hx, hy, ?_⟩
        by_cases h1 : 10 * x + y = 10 * a + b
        · rw [decide_eq_true (e2.mpr h1), Bool.xor_true, Bool.not_eq_true'] at q
          exact Or.inr ⟨fun z => (by rw [e.mpr z] at q; cases q), h1⟩
        · rw [decide_eq_false (fun z => h1 (e2.mp z)), Bool.xor_false] at q
          exact Or.inl ⟨e.mp q, h1⟩
      · rintro ⟨-, -, q⟩
        refine ⟨hx, hy, ?_⟩
        rcases q with ⟨q1, q2⟩ | ⟨q1, q2⟩
        · rw [decide_eq_false (fun z => q2 (e2.mp z)), Bool.xor_false]; exact e.mpr q1
        · rw [decide_eq_true (e2.mpr q2), Bool.xor_true, Bool.not_eq_true', Bool.eq_false_iff]
          exact fun z => q1 (e.mp z)
    · exact ⟨fun q => absurd q.2.1 hy, fun q => absurd q.2.1 hy⟩
  · exact ⟨fun q => absurd q.1 hx, fun q => absurd q.1 hx⟩
/-- two numbers of the range, or not -/
theorem knots_n {n : Nat} (h1 : 1 ≤ n) (h8 : n ≤ 8) (p1 p2 : Int32) : (∃ u v, u < n ∧ v < n ∧ p1 = nI u ∧ p2 = nI v ∧ mX3_areKnots (nI n) p1 p2 = true ∧ mX11_isKnot (nI n) p1 = true ∧ mX11_isKnot (nI n) p2 = true) ∨ (mX3_areKnots (nI n) p1 p2 = false ∧ (mX11_isKnot (nI n) p1 = false ∨ mX11_isKnot (nI n) p2 = false)) := by
  rw [mX3_areKnots]
  rcases knot_n h1 h8 p1 with ⟨u, hu, rfl, q1, q2⟩ | ⟨q1, q2⟩
  · rcases knot_n h1 h8 p2 with ⟨v, hv, rfl, z1, z2⟩ | ⟨z1, z2⟩
    · exact Or.inl ⟨u, v, hu, hv, rfl, rfl, by rw [q1, z1]; rfl, q2, z2⟩
    · exact Or.inr ⟨by rw [q1, z1]; rfl, Or.inr z2⟩
  · exact Or.inr ⟨by rw [q1]; rfl, Or.inl q2⟩
theorem ifk {α : Type} {a b : Bool} {x y : α} (h : a = false ∨ b = false) : (if a = true then (if b = true then x else y) else y) = y := by
  rcases h with rfl | rfl
  · rfl
  · cases a <;> rfl
theorem iff_t {α : Type} {x y : α} : (if true = true then x else y) = x := rfl
theorem if_f {α : Type} {x y : α} : (if false = true then x else y) = y := rfl
/-! nearest: both sides alike -/
section NR
variable {sz : Int32} {f : Nat → Int32} {E : List (Nat × Nat)} {now : Nat → Int32} {nx n : Nat}
theorem both_nearest (h : edR sz f E) (hd : mdR now 0 E nx) (hE : okE E) (h1 : 1 ≤ n) (h8 : n ≤ 8) (k1 k2 k3 : Int64) (k4 k0 : Int32) (cv0 : Nat → Int32) (p1 p2 : Int32) : ∃ r g cvd cvr rch rch' cov, mX10_nearest (nI n) sz f k1 k2 k3 k4 p1 p2 = some (r, g, cvd, cvr, rch) ∧ mX11_nearest (nI n) k0 now cv0 p1 p2 = some (r, rch', cov) := by
  rw [mX10_nearest, mX11_nearest]
  rcases knots_n h1 h8 p1 p2 with ⟨u, v, hu, hv, rfl, rfl, q0, q1, q2⟩ | ⟨q0, q⟩
  · obtain ⟨g, cvd, cvr, rch, cov, e1, e2, e3, hb⟩ := both_learn (L := 0) h hd hE k1 k2 k3 k4 k0 cv0
    have e3' : mX11_findCovers k0 now cv0 0 = some (rch, cov) := e3
    rw [if_pos q0, if_pos q1, if_pos q2, e1, Option.bind_some, e3', Option.bind_some]
    dsimp only
    rw [mX2_isReached, mX2_isReached, isIn_n _ (by omega), isIn_n _ (by omega), has_n _ (by omega), has_n _ (by omega)]
    by_cases ra : bt rch u = true
    · rw [if_pos ra, if_pos ra]
      by_cases rb : bt rch v = true
      · rw [if_pos rb, if_pos rb]
        obtain ⟨m, -, w1, w2⟩ := hb.near (by omega) (by omega) ra rb
        rw [w1, w2, Option.bind_some]
        exact ⟨_, _, _, _, _, _, _, rfl, rfl⟩
      · rw [if_neg rb, if_neg rb]
        exact ⟨_, _, _, _, _, _, _, rfl, rfl⟩
    · rw [if_neg ra, if_neg ra]
      exact ⟨_, _, _, _, _, _, _, rfl, rfl⟩
  · rw [q0, if_f, ifk q]
    exact ⟨_, _, _, _, _, _, _, rfl, rfl⟩
/-! would: both sides alike -/
theorem chg_c {cvr cvr' : Int64} {l l' : Nat → Int32} (hl : ∀ k, k < 8 → mX2_lidOf cvr (nI k) = some (l k)) (hl' : ∀ k, k < 8 → mX2_lidOf cvr' (nI k) = some (l' k)) : ∀ (j k fuel : Nat) (c : Int32), k + j = 8 → j < fuel → ∃ r, mX2_changedIn_L12 cvr cvr' fuel c (nI k) = some r ∧ ∀ i, bt r i = (bt c i || (decide (k ≤ i ∧ i < 8) && !decide (l i = l' i))) := by
  intro j
  induction j with
  | zero =>
    intro k fuel c hk hf
    obtain ⟨m, rfl⟩ := fuel_s hf
    rw [mX2_changedIn_L12, if_pos (le8_t (by omega) (by omega))]
    exact ⟨c, rfl, fun i => by rw [decide_eq_false (by omega), Bool.false_and, Bool.or_false]⟩
  | succ j ih =>
    intro k fuel c hk hf
    obtain ⟨m, rfl⟩ := fuel_s hf
    have hk8 : k < 8 := by omega
    rw [mX2_changedIn_L12, if_neg (le8_f hk8), hl k hk8, Option.bind_some, hl' k hk8, Option.bind_some, nI_1]
    by_cases hc : l k = l' k
    · rw [if_pos hc]
      obtain ⟨r, e, hr⟩ := ih (k + 1) m c (by omega) (by omega)
      refine ⟨r, e, fun i => ?_⟩
      rw [hr i]
      by_cases hi : i = k
      · subst hi; rw [decide_eq_false (by omega), decide_eq_true hc]; simp
      · have : (k + 1 ≤ i ∧ i < 8) ↔ (k ≤ i ∧ i < 8) := by omega
        rw [decide_eq_decide.mpr this]
    · rw [if_neg hc]
      obtain ⟨r, e, hr⟩ := ih (k + 1) m (c ||| mX5_only (nI k)) (by omega) (by omega)
      refine ⟨r, e, fun i => ?_⟩
      rw [hr i, b_or, only_b (by omega)]
      by_cases hi : i = k
      · subst hi; rw [decide_eq_true rfl, decide_eq_true (show i ≤ i ∧ i < 8 from ⟨Nat.le_refl _, hk8⟩), decide_eq_false hc]; simp
      · have : (k + 1 ≤ i ∧ i < 8) ↔ (k ≤ i ∧ i < 8) := by omega
        rw [decide_eq_decide.mpr this, decide_eq_false hi, Bool.or_false]
theorem bI_eq (a b : Bool) : bI a = bI b ↔ a = b := by cases a <;> cases b <;> decide
theorem chg_m {rch rch' : Int32} {cov' lids now' : Nat → Int32} {l l' : Nat → Int32} (cv : Nat → Int32) (hl : ∀ k, k < 8 → lids k = l k) (hl' : ∀ k, k < 8 → mX11_lidOf rch' cov' (nI k) = some (l' k)) : ∀ (j k fuel : Nat) (c : Int32), k + j = 8 → j < fuel → ∃ r, mX11_would_L130 (rch, cv) lids now' (rch', cov') fuel c (nI k) = some (r, rch', now', cov', lids) ∧ ∀ i, bt r i = (bt c i || (decide (k ≤ i ∧ i < 8) && (!decide (l i = l' i) || (bt rch i ^^ bt rch' i)))) := by
  intro j
  induction j with
  | zero =>
    intro k fuel c hk hf
    obtain ⟨m, rfl⟩ := fuel_s hf
    rw [mX11_would_L130, if_pos (le8_t (by omega) (by omega))]
    exact ⟨c, rfl, fun i => by rw [decide_eq_false (by omega), Bool.false_and, Bool.or_false]⟩
  | succ j ih =>
    intro k fuel c hk hf
    obtain ⟨m, rfl⟩ := fuel_s hf
    have hk8 : k < 8 := by omega
    have step : ∀ (c' : Int32), (∀ i, bt c' i = (bt c i || (decide (i = k) && (!decide (l k = l' k) || (bt rch k ^^ bt rch' k))))) → ∃ r, mX11_would_L130 (rch, cv) lids now' (rch', cov') m c' (nI (k + 1)) = some (r, rch', now', cov', lids) ∧ ∀ i, bt r i = (bt c i || (decide (k ≤ i ∧ i < 8) && (!decide (l i = l' i) || (bt rch i ^^ bt rch' i)))) := by
      intro c' hc'
      obtain ⟨r, e, hr⟩ := ih (k + 1) m c' (by omega) (by omega)
      refine ⟨r, e, fun i => ?_⟩
      rw [hr i, hc' i]
      by_cases hi : i = k
      · subst hi; rw [decide_eq_true rfl, decide_eq_true (show i ≤ i ∧ i < 8 from ⟨Nat.le_refl _, hk8⟩), decide_eq_false (show ¬ (i + 1 ≤ i ∧ i < 8) by omega)]; simp
      · have : (k + 1 ≤ i ∧ i < 8) ↔ (k ≤ i ∧ i < 8) := by omega
        rw [decide_eq_decide.mpr this, decide_eq_false hi, Bool.false_and, Bool.or_false]
    rw [mX11_would_L130, if_neg (le8_f hk8)]
    dsimp only
    rw [has_n _ (by omega), has_n _ (by omega), nI_1]
    by_cases hb : bt rch k = bt rch' k
    · rw [if_pos ((bI_eq _ _).mpr hb), hl' k hk8, Option.bind_some, gd_n hk8 (by omega), i_cl (a := k) (by omega), hl k hk8]
      by_cases hc : l' k = l k
      · rw [if_pos hc, or0]
        exact step c fun i => by rw [decide_eq_true hc.symm, hb]; simp
      · rw [if_neg hc]
        exact step (c ||| mX5_only (nI k)) fun i => by rw [b_or, only_b (by omega), decide_eq_false (show ¬ l k = l' k from fun z => hc z.symm)]; simp
    · rw [if_neg (fun z => hb ((bI_eq _ _).mp z))]
      refine step (c ||| mX5_only (nI k)) fun i => ?_
      have hx : (bt rch k ^^ bt rch' k) = true := by
        revert hb; cases bt rch k <;> cases bt rch' k <;> decide
      rw [b_or, only_b (by omega), hx]; simp
theorem lids_m {rch : Int32} {cov : Nat → Int32} {l : Nat → Int32} (hl : ∀ k, k < 8 → mX11_lidOf rch cov (nI k) = some (l k)) (nw : Nat → Int32) (p1 p2 r30 : Int32) : ∀ (j k fuel : Nat) (lids : Nat → Int32), k + j = 8 → j < fuel → (∀ i, i < k → lids i = l i) → ∃ lids', mX11_would_L67 nw p1 p2 r30 (rch, cov) fuel (nI k) lids = mX11_would_J93 nw p1 p2 r30 (rch, cov) lids' ∧ ∀ i, i < 8 → lids' i = l i := by
  intro j
  induction j with
  | zero =>
    intro k fuel lids hk hf hi
    obtain ⟨m, rfl⟩ := fuel_s hf
    rw [mX11_would_L67, if_pos (le8_t (by omega) (by omega))]
    exact ⟨lids, rfl, fun i q => hi i (by omega)⟩
  | succ j ih =>
    intro k fuel lids hk hf hi
    obtain ⟨m, rfl⟩ := fuel_s hf
    have hk8 : k < 8 := by omega
    rw [mX11_would_L67, if_neg (le8_f hk8)]
    dsimp only
    rw [hl k hk8, Option.bind_some, gd_n hk8 (by omega), i_cl (a := k) (by omega), nI_1]
    refine ih (k + 1) m _ (by omega) (by omega) fun i q => ?_
    by_cases z : i = k
    · subst z; exact upd_s ..
    · rw [upd_n (h := z)]; exact hi i (by omega)
theorem would_j (h : edR sz f E) (hd : mdR now 0 E nx) (hE : okE E) (hnx : nx < 1000000) {a b : Nat} (ha : a < 8) (hb : b < 8) (hab : a ≠ b) (hc : 10 * a + b ∈ ePr E ∨ E.length < 24) (k1 k2 k3 t1 t2 t3 : Int64) (k4 t4 k0 : Int32) (cv0 lids : Nat → Int32) : ∃ r g cvd cvr rch g' cvd' cvr' rch' mrch now' cov' lids', mX10_would_J47 sz f k1 k2 k3 k4 t1 t2 t3 t4 (nI a) (nI b) = some (r, g, cvd, cvr, rch, g', cvd', cvr', rch') ∧ mX11_would_J53 k0 now cv0 lids (nI a) (nI b) (plcP (ePr E) (10 * a + b)) = some (r, mrch, now', cov', lids') ∧ mdR now' 0 E nx := by
  obtain ⟨g, cvd, cvr, rch, cov, e1, e2, e3, hb0⟩ := both_learn (L := 0) h hd hE k1 k2 k3 k4 k0 cv0
  have e3' : mX11_findCovers k0 now cv0 0 = some (rch, cov) := e3
  have hE' := ok_fl hE (s := nx) hnx ha hb hab hc
  have hlid : ∃ l : Nat → Int32, ∀ k, k < 8 → mX2_lidOf cvr (nI k) = some (l k) ∧ mX11_lidOf rch cov (nI k) = some (l k) := by
    refine ⟨fun k => (mX2_lidOf cvr (nI k)).getD 0, fun k hk => ?_⟩
    obtain ⟨r, q1, q2, -⟩ := hb0.lid hk
    dsimp only
    rw [q1, q2]
    exact ⟨rfl, rfl⟩
  obtain ⟨l, hl⟩ := hlid
  obtain ⟨cvd', cvr', rch', e4, hcv⟩ := learn_n t1 t2 t3 t4 (mX5_flipped g (nI a) (nI b))
  have hg' := gE_fl hE hb0.2.1 nx ha hb
  -- the reference's list, one more or one less
  obtain ⟨lids', e5, hl5⟩ := lids_m (fun k hk => (hl k hk).2) now (nI a) (nI b) (plcP (ePr E) (10 * a + b)) 8 0 kFU lids rfl (kFU_b (by omega)) (fun i q => absurd q (Nat.not_lt_zero _))
  have e5' : mX11_would_L67 now (nI a) (nI b) (plcP (ePr E) (10 * a + b)) (rch, cov) kFU 0 lids = mX11_would_J93 now (nI a) (nI b) (plcP (ePr E) (10 * a + b)) (rch, cov) lids' := e5
  obtain ⟨now1, e6, hd1, hs1⟩ := md_lay hd
  have hmid : ∃ now2 nx2, mX11_would_J93 now (nI a) (nI b) (plcP (ePr E) (10 * a + b)) (rch, cov) lids' = mX11_would_J119 (rch, cov) lids' now2 ∧ mdR now2 1 (flE E nx (10 * a + b)) nx2 ∧ ∀ i, i < 50 → now2 i = now i := by
    rw [mX11_would_J93, e6, Option.bind_some, plcP, flE]
    by_cases hp : 10 * a + b ∈ ePr E
    · have hi := idx_lt hp
      rw [if_pos hp, if_neg (by rw [i_ne9 (by have := hE.1; omega)]; exact id), if_pos hp]
      obtain ⟨now2, e7, hd2, hs2⟩ := md_delete hd1 hi
      have e7' : mX11_deleteOn now1 1 (nI ((ePr E).idxOf (10 * a + b))) = some now2 := e7
      rw [e7', Option.bind_some]
      exact ⟨now2, nx, rfl, hd2, fun i q => (hs2 i (Or.inl (by omega))).trans (hs1 i q)⟩
    · rw [if_neg hp, if_pos rfl, if_neg hp]
      obtain ⟨now2, e7, hd2, hs2⟩ := md_insert hd1 (hc.resolve_left hp) a b
      have e7' : mX11_insertOn now1 1 (nI a) (nI b) = some now2 := e7
      rw [e7', Option.bind_some]
      exact ⟨now2, nx + 1, rfl, hd2, fun i q => (hs2 i (Or.inl (by omega))).trans (hs1 i q)⟩
  obtain ⟨now2, nx2, e8, hd2, hs2⟩ := hmid
  obtain ⟨mrch, cov', e9, hm⟩ := findCovers_n hd2 hE' rch cov
  have e9' : mX11_findCovers rch now2 cov 1 = some (mrch, cov') := e9
  have hb1 : bcR (mX5_flipped g (nI a) (nI b)) cvd' cvr' rch' cov' mrch (pE (ePr (flE E nx (10 * a + b)))) := ⟨hcv, hg', hm⟩
  have hsame := hb1.same
  subst hsame
  have hlid' : ∃ l' : Nat → Int32, ∀ k, k < 8 → mX2_lidOf cvr' (nI k) = some (l' k) ∧ mX11_lidOf rch' cov' (nI k) = some (l' k) := by
    refine ⟨fun k => (mX2_lidOf cvr' (nI k)).getD 0, fun k hk => ?_⟩
    obtain ⟨r, q1, q2, -⟩ := hb1.lid hk
    dsimp only
    rw [q1, q2]
    exact ⟨rfl, rfl⟩
  obtain ⟨l', hl'⟩ := hlid'
  obtain ⟨r, ec, hr⟩ := chg_c (fun k hk => (hl k hk).1) (fun k hk => (hl' k hk).1) 8 0 kFU (rch ^^^ rch') rfl (kFU_b (by omega))
  obtain ⟨r', em, hr'⟩ := chg_m (rch := rch) (rch' := rch') (now' := now2) cov hl5 (fun k hk => (hl' k hk).2) 8 0 kFU 0 rfl (kFU_b (by omega))
  have er : r = r' := by
    refine b_ext fun i hi => ?_
    rw [hr i, hr' i, b_0, b_xor]
    by_cases h8 : i < 8
    · rw [decide_eq_true (show 0 ≤ i ∧ i < 8 from ⟨Nat.zero_le _, h8⟩), Bool.true_and, Bool.true_and, Bool.false_or, Bool.or_comm]
    · rw [decide_eq_false (fun q => h8 q.2), hb0.1.1 i (by omega), hcv.1 i (by omega)]; rfl
  subst er
  refine ⟨r, g, cvd, cvr, rch, mX5_flipped g (nI a) (nI b), cvd', cvr', rch', rch', now2, cov', lids', ?_, ?_, hd.same fun i _ q => hs2 i (by omega)⟩
  · rw [mX10_would_J47, e1, Option.bind_some, e2, Option.bind_some, e4, Option.bind_some]
    dsimp only
    rw [mX2_changedIn]
    have ec' : mX2_changedIn_L12 cvr cvr' kFU (rch ^^^ rch') 0 = some r := ec
    rw [ec', Option.bind_some]
  · rw [mX11_would_J53, e3', Option.bind_some, e5', e8, mX11_would_J119]
    dsimp only
    rw [e9', Option.bind_some]
    exact em
theorem both_would (h : edR sz f E) (hd : mdR now 0 E nx) (hE : okE E) (hnx : nx < 1000000) (h1 : 1 ≤ n) (h8 : n ≤ 8) (k1 k2 k3 t1 t2 t3 : Int64) (k4 t4 k0 : Int32) (cv0 lids : Nat → Int32) (p1 p2 : Int32) : ∃ r g cvd cvr rch g' cvd' cvr' rch' mrch now' cov' lids', mX10_would (nI n) sz f k1 k2 k3 k4 t1 t2 t3 t4 p1 p2 = some (r, g, cvd, cvr, rch, g', cvd', cvr', rch') ∧ mX11_would (nI n) k0 now cv0 lids p1 p2 = some (r, mrch, now', cov', lids') ∧ mdR now' 0 E nx := by
  rw [mX10_would, mX11_would]
  rcases knots_n h1 h8 p1 p2 with ⟨u, v, hu, hv, rfl, rfl, q0, q1, q2⟩ | ⟨q0, q⟩
  · have hu8 : u < 8 := by omega
    have hv8 : v < 8 := by omega
    rw [if_pos q0, if_pos q1, if_pos q2]
    by_cases huv : u = v
    · rw [if_pos (by rw [huv]), if_pos (by rw [huv])]
      exact ⟨_, _, _, _, _, _, _, _, _, _, _, _, _, rfl, rfl, hd⟩
    · have hne : ¬ nI u = nI v := fun q => huv ((nI_eq (by omega) (by omega)).mp q)
      have ef : mX11_find now 0 (nI u) (nI v) = some (plcP (ePr E) (10 * u + v)) := md_find hd hE (by omega) (by omega)
      have emn : mX11_many now 0 = some (nI E.length) := md_many hd
      have hle := hE.1
      rw [if_neg hne, if_neg hne, ed_has h hE hu8 hv8, Option.bind_some, ef, Option.bind_some, ed_isFull h, emn]
      by_cases hp : 10 * u + v ∈ ePr E
      · have h9 : ¬ plcP (ePr E) (10 * u + v) = -9 := by
          have := idx_lt hp
          rw [plcP, if_pos hp, i_ne9 (by omega)]; exact id
        rw [if_pos (decide_eq_true hp), if_neg h9]
        exact would_j h hd hE hnx hu8 hv8 huv (Or.inl hp) ..
      · have h9 : plcP (ePr E) (10 * u + v) = -9 := if_neg hp
        rw [if_neg (by rw [decide_eq_true_eq]; exact hp), if_pos h9, Option.bind_some]
        by_cases hl : 24 ≤ E.length
        · rw [if_pos (decide_eq_true hl), if_pos (show nI E.length = 24 by rw [show E.length = 24 by omega]; rfl)]
          exact ⟨_, _, _, _, _, _, _, _, _, _, _, _, _, rfl, rfl, hd⟩
        · rw [if_neg (by rw [decide_eq_true_eq]; exact hl), if_neg (show ¬ nI E.length = 24 from fun q => hl (by have := (nI_eq (b := 24) (show E.length < 2 ^ 31 by omega) (by omega)).mp q; omega))]
          exact would_j h hd hE hnx hu8 hv8 huv (Or.inr (by omega)) ..
  · rw [q0, if_f, ifk q]
    exact ⟨_, _, _, _, _, _, _, _, _, _, _, _, _, rfl, rfl, hd⟩
end NR
