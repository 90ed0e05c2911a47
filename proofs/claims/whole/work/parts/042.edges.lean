/-! the edges of the class as a list of (stamp, 10 times from and to) -/
theorem dropC {α : Type} {L l : List α} {e : α} {k : Nat} (h : L.drop k = e :: l) : k < L.length ∧ L[k]? = some e ∧ L.drop (k + 1) = l := by
  have h1 : k < L.length := by
    rcases Nat.lt_or_ge k L.length with q | q
    · exact q
    · rw [List.drop_eq_nil_of_le q] at h; cases h
  rw [List.drop_eq_getElem_cons h1] at h
  simp only [List.cons.injEq] at h
  exact ⟨h1, by rw [List.getElem?_eq_getElem h1, h.1], h.2⟩
theorem dropN {α : Type} {L : List α} {k : Nat} (h : L.drop k = []) : L.length ≤ k := List.drop_eq_nil_iff.mp h
theorem fuel_s {j fuel : Nat} (h : j < fuel) : ∃ m, fuel = m + 1 := ⟨fuel - 1, by omega⟩
theorem kFU_b {j : Nat} (h : j < 100000000) : j < kFU := h
def enc (e : Nat × Nat) : Int32 := nI (100 * e.1 + e.2)
def okE (E : List (Nat × Nat)) : Prop := E.length ≤ 24 ∧ (∀ e, e ∈ E → e.1 < 1000000 ∧ e.2 < 80 ∧ e.2 % 10 < 8 ∧ e.2 / 10 ≠ e.2 % 10) ∧ (E.map Prod.snd).Nodup
def edR (sz : Int32) (f : Nat → Int32) (E : List (Nat × Nat)) : Prop := rowR 24 sz f (E.map enc)
def ePr (E : List (Nat × Nat)) : List Nat := E.map Prod.snd
def plcP (P : List Nat) (p : Nat) : Int32 := if p ∈ P then nI (P.idxOf p) else -9
def c8 (p : Nat) : Nat := 8 * (p / 10) + p % 10
theorem okE.nil : okE [] := ⟨Nat.zero_le _, fun _ h => absurd h List.not_mem_nil, List.nodup_nil⟩
theorem pair_n (a b : Nat) : mX3_pair (nI a) (nI b) = nI (10 * a + b) := by
  rw [mX3_pair, show (10 : Int32) = nI 10 from rfl, pk_mul, nI_add]
theorem pairOf_n {s p : Nat} (hs : s < 1000000) (hp : p < 100) : mX3_pairOf (nI (100 * s + p)) = nI p := by
  rw [mX3_pairOf, show (100 : Int32) = nI 100 from rfl, pk_rem (by omega) (by omega) (by omega)]
  congr 1; omega
theorem stampOf_n {s p : Nat} (hs : s < 1000000) (hp : p < 100) : mX3_stampOf (nI (100 * s + p)) = nI s := by
  rw [mX3_stampOf, show (100 : Int32) = nI 100 from rfl, pk_div (by omega) (by omega) (by omega)]
  congr 1; omega
theorem div10 {p : Nat} (h : p < 2 ^ 31) : nI p / 10 = nI (p / 10) := pk_div (d := 10) h (by omega) (by omega)
theorem mod10 {p : Nat} (h : p < 2 ^ 31) : nI p - nI p / 10 * 10 = nI (p % 10) := pk_rem (d := 10) h (by omega) (by omega)
section ED
variable {sz : Int32} {f : Nat → Int32} {E : List (Nat × Nat)}
theorem edR.len (h : edR sz f E) : sz = nI E.length := by have := h.1; rwa [List.length_map] at this
theorem edR.le (h : edR sz f E) : E.length ≤ 24 := by have := h.2.1; rwa [List.length_map] at this
theorem ed_at (h : edR sz f E) {k : Nat} {e : Nat × Nat} (he : E[k]? = some e) : mX6_at 24 sz f (nI k) = enc e := by
  have hl := (List.getElem?_eq_some_iff.mp he).1
  have := h.le
  rw [at_n h (by omega), List.getD_eq_getElem?_getD, List.getElem?_map, he]; rfl
theorem ed_pair (h : edR sz f E) (hE : okE E) {k : Nat} {e : Nat × Nat} (he : E[k]? = some e) : mX3_pairOf (mX6_at 24 sz f (nI k)) = nI e.2 := by
  have hm := hE.2.1 e (List.mem_of_getElem? he)
  rw [ed_at h he, enc, pairOf_n hm.1 (by omega)]
theorem ed_placeOf (h : edR sz f E) (hE : okE E) {a b : Nat} (ha : a < 8) (hb : b < 8) : mX3_placeOf sz f (nI a) (nI b) = some (plcP (ePr E) (10 * a + b)) := by
  have key : ∀ (l : List (Nat × Nat)) (k fuel : Nat), E.drop k = l → k ≤ E.length → l.length < fuel → mX3_placeOf_L2 sz f (nI a) (nI b) fuel (nI k) = some (if 10 * a + b ∈ l.map Prod.snd then nI (k + (l.map Prod.snd).idxOf (10 * a + b)) else -9) := by
    intro l
    induction l with
    | nil =>
      intro k fuel hd hke hf
      obtain ⟨m, rfl⟩ := fuel_s hf
      have hk := dropN hd
      have hle := h.le
      rw [mX3_placeOf_L2, mX6_size, if_pos, List.map_nil, if_neg List.not_mem_nil]
      rw [h.len]
      exact (nI_leI (by omega) (by omega)).mpr hk
    | cons e l ih =>
      intro k fuel hd hke hf
      obtain ⟨m, rfl⟩ := fuel_s hf
      obtain ⟨h1, h2, h3⟩ := dropC hd
      have hle := h.le
      have hm := hE.2.1 e (List.mem_of_getElem? h2)
      rw [mX3_placeOf_L2, mX6_size, if_neg (by rw [h.len]; exact fun q => by have := (nI_leI (by omega) (by omega)).mp q; omega), ed_pair h hE h2, pair_n, List.map_cons]
      by_cases hp : e.2 = 10 * a + b
      · rw [if_pos (by rw [hp]), if_pos (by rw [hp]; exact List.mem_cons_self), hp, List.idxOf_cons_self]; rfl
      · rw [if_neg (fun q => hp ((nI_eq (by omega) (by omega)).mp q)), nI_1, ih (k + 1) m h3 (by omega) (by simp only [List.length_cons] at hf; omega)]
        have e1 : (10 * a + b ∈ e.2 :: l.map Prod.snd) ↔ 10 * a + b ∈ l.map Prod.snd := by
          rw [List.mem_cons]
          exact ⟨fun q => q.resolve_left (fun z => hp z.symm), Or.inr⟩
        by_cases hm2 : 10 * a + b ∈ l.map Prod.snd
        · rw [if_pos hm2, if_pos (e1.mpr hm2), idxOf_ne hp, show k + ((l.map Prod.snd).idxOf (10 * a + b) + 1) = k + 1 + (l.map Prod.snd).idxOf (10 * a + b) from by omega]
        · rw [if_neg hm2, if_neg (fun q => hm2 (e1.mp q))]
  have hle := h.le
  have := key E 0 kFU rfl (Nat.zero_le _) (kFU_b (by omega))
  rw [mX3_placeOf, show (0 : Int32) = nI 0 from rfl, this, Nat.zero_add]; rfl
theorem ed_has (h : edR sz f E) (hE : okE E) {a b : Nat} (ha : a < 8) (hb : b < 8) : mX3_has sz f (nI a) (nI b) = some (decide (10 * a + b ∈ ePr E)) := by
  have hle := h.le
  rw [mX3_has, ed_placeOf h hE ha hb, Option.bind_some, plcP]
  by_cases hp : 10 * a + b ∈ ePr E
  · have hl : (ePr E).idxOf (10 * a + b) < (ePr E).length := List.idxOf_lt_length_of_mem hp
    rw [ePr, List.length_map] at hl
    rw [if_pos hp, if_neg (fun q => (i_ne9 (a := (ePr E).idxOf (10 * a + b)) (by rw [ePr]; omega)).mp q), decide_eq_true hp]
  · rw [if_neg hp, if_pos rfl, decide_eq_false hp]
theorem ed_size (h : edR sz f E) : mX3_size sz = nI E.length := by rw [mX3_size, mX6_size, h.len]
theorem ed_isFull (h : edR sz f E) : mX3_isFull sz = decide (24 ≤ E.length) := by
  rw [mX3_isFull, isFull_n h, List.length_map]
theorem ed_append (h : edR sz f E) (hl : E.length < 24) {s a b : Nat} : ∃ f', mX3_append (nI s) sz f (nI a) (nI b) = some (nI s, nI (s + 1), nI (E.length + 1), f') ∧ edR (nI (E.length + 1)) f' (E ++ [(s, 10 * a + b)]) := by
  obtain ⟨f', e, r⟩ := add_n h (by rw [List.length_map]; exact hl) (enc (s, 10 * a + b))
  rw [List.length_map] at e r
  refine ⟨f', ?_, ?_⟩
  · rw [mX3_append, pair_n, show (100 : Int32) = nI 100 from rfl, pk_mul, nI_add, show nI (100 * s + (10 * a + b)) = enc (s, 10 * a + b) from rfl, e, Option.bind_some, nI_1]
  · rw [edR, List.map_append]
    exact r
theorem map_erase {α β : Type} (g : α → β) : ∀ (l : List α) (k : Nat), (l.eraseIdx k).map g = (l.map g).eraseIdx k := by
  intro l
  induction l with
  | nil => intro k; rfl
  | cons a l ih => intro k; cases k with
    | zero => rfl
    | succ k => simp [List.eraseIdx_cons_succ, ih k]
theorem map_insertI {α β : Type} (g : α → β) (x : α) : ∀ (l : List α) (k : Nat), (l.insertIdx k x).map g = (l.map g).insertIdx k (g x) := by
  intro l
  induction l with
  | nil => intro k; cases k <;> simp
  | cons a l ih => intro k; cases k with
    | zero => simp
    | succ k => simp [List.insertIdx_succ_cons, ih k]
theorem ed_takeOut (h : edR sz f E) {k : Nat} {e : Nat × Nat} (he : E[k]? = some e) : ∃ f', mX3_takeOut sz f (nI k) = some (enc e, nI (E.length - 1), f') ∧ edR (nI (E.length - 1)) f' (E.eraseIdx k) := by
  have hl := (List.getElem?_eq_some_iff.mp he).1
  obtain ⟨f', e1, r⟩ := takeOut_n h (k := k) (by rw [List.length_map]; exact hl)
  rw [List.length_map, List.getD_eq_getElem?_getD, List.getElem?_map, he] at e1
  rw [List.length_map] at r
  refine ⟨f', ?_, ?_⟩
  · rw [mX3_takeOut, e1]; rfl
  · rw [edR, map_erase]; exact r
theorem ed_putBack (h : edR sz f E) {k : Nat} (hk : k ≤ E.length) (hl : E.length < 24) (e : Nat × Nat) : ∃ f', mX3_putBack sz f (nI k) (enc e) = some (nI (E.length + 1), f') ∧ edR (nI (E.length + 1)) f' (E.insertIdx k e) := by
  obtain ⟨f', e1, r⟩ := putIn_n h (k := k) (by rw [List.length_map]; exact hk) (by rw [List.length_map]; exact hl) (enc e)
  rw [List.length_map] at e1 r
  refine ⟨f', ?_, ?_⟩
  · rw [mX3_putBack, e1]; rfl
  · rw [edR, map_insertI]; exact r
theorem ed_takeBack {x : Nat × Nat} {s : Nat} (h : edR sz f (E ++ [x])) (hs : 0 < s) : ∃ f', mX3_takeBackLast (nI s) sz f = some (nI (s - 1), nI E.length, f') ∧ edR (nI E.length) f' E := by
  rw [edR, List.map_append] at h
  obtain ⟨f', e1, r⟩ := takeLast_n h
  rw [List.length_map] at e1 r
  refine ⟨f', ?_, r⟩
  rw [mX3_takeBackLast, e1, Option.bind_some, i_pred hs]
theorem ed_copy {sz2 : Int32} {f2 : Nat → Int32} (h : edR sz f E) (kn kn2 nx nx2 : Int32) : ∃ f', mX3_copy kn nx sz2 f2 kn2 nx2 sz f = some (kn2, nx2, nI E.length, f') ∧ edR (nI E.length) f' E := by
  obtain ⟨f', e, r⟩ := copy_n (sz := sz2) (f := f2) (by omega : 24 ≤ 1000) h (by have := h.le; rw [List.length_map]; exact this)
  rw [List.length_map] at e r
  refine ⟨f', ?_, r⟩
  rw [mX3_copy, e, Option.bind_some]
/-- deleted by its place -/
def delE (E : List (Nat × Nat)) (p : Nat) : List (Nat × Nat) := E.eraseIdx ((ePr E).idxOf p)
theorem ePr_get {p : Nat} (hp : p ∈ ePr E) : ∃ e, E[(ePr E).idxOf p]? = some e ∧ e.2 = p := by
  have hl : (ePr E).idxOf p < (ePr E).length := List.idxOf_lt_length_of_mem hp
  have h1 := List.getElem_idxOf hl
  have h2 : (ePr E)[(ePr E).idxOf p]? = some p := by rw [List.getElem?_eq_getElem hl, h1]
  rw [ePr, List.getElem?_map] at h2
  cases h3 : E[(E.map Prod.snd).idxOf p]? with
  | none => rw [h3] at h2; cases h2
  | some e => rw [h3] at h2; exact ⟨e, h3, Option.some.inj h2⟩
theorem ed_insIf (h : edR sz f E) (hE : okE E) {s a b : Nat} (ha : a < 8) (hb : b < 8) : ∃ f', mX3_insertIfItCanBe (nI s) sz f (nI a) (nI b) = some (if a ≠ b ∧ 10 * a + b ∉ ePr E ∧ E.length < 24 then (true, nI (s + 1), nI (E.length + 1), f') else (false, nI s, nI E.length, f')) ∧ (if a ≠ b ∧ 10 * a + b ∉ ePr E ∧ E.length < 24 then edR (nI (E.length + 1)) f' (E ++ [(s, 10 * a + b)]) else edR (nI E.length) f' E) := by
  have hn : ∀ (c : Prop) [Decidable c], ¬ c → ∃ f', mX3_insertIfItCanBe_J26 (nI s) sz f (nI a) (nI b) false = some (if c then (true, nI (s + 1), nI (E.length + 1), f') else (false, nI s, nI E.length, f')) ∧ (if c then edR (nI (E.length + 1)) f' (E ++ [(s, 10 * a + b)]) else edR (nI E.length) f' E) := by
    intro c _ hc
    refine ⟨f, ?_, ?_⟩
    · rw [mX3_insertIfItCanBe_J26, if_neg (by decide), h.len, if_neg hc]
    · rw [if_neg hc, ← h.len]; exact h
  unfold mX3_insertIfItCanBe
  by_cases hab : a = b
  · rw [if_pos (by rw [hab])]
    exact hn _ (fun q => q.1 hab)
  · rw [if_neg (fun q => hab ((nI_eq (by omega) (by omega)).mp q)), ed_has h hE ha hb, Option.bind_some]
    by_cases hp : 10 * a + b ∈ ePr E
    · rw [if_pos (decide_eq_true hp)]
      exact hn _ (fun q => q.2.1 hp)
    · rw [if_neg (by rw [decide_eq_true_eq]; exact hp), ed_isFull h]
      by_cases hl : 24 ≤ E.length
      · rw [if_pos (decide_eq_true hl)]
        exact hn _ (fun q => absurd q.2.2 (by omega))
      · rw [if_neg (by rw [decide_eq_true_eq]; exact hl), mX3_insertIfItCanBe_J26, if_pos rfl]
        obtain ⟨f', e, r⟩ := ed_append h (by omega) (s := s) (a := a) (b := b)
        refine ⟨f', ?_, ?_⟩
        · rw [e, Option.bind_some, if_pos ⟨hab, hp, by omega⟩]
        · rw [if_pos ⟨hab, hp, by omega⟩]; exact r
theorem ed_delIf (h : edR sz f E) (hE : okE E) {a b : Nat} (ha : a < 8) (hb : b < 8) : ∃ f', mX3_deleteIfItIsThere sz f (nI a) (nI b) = some (if 10 * a + b ∈ ePr E then (true, nI (E.length - 1), f') else (false, nI E.length, f')) ∧ (if 10 * a + b ∈ ePr E then edR (nI (E.length - 1)) f' (delE E (10 * a + b)) else edR (nI E.length) f' E) := by
  rw [mX3_deleteIfItIsThere, ed_has h hE ha hb, Option.bind_some]
  by_cases hp : 10 * a + b ∈ ePr E
  · obtain ⟨e, he, -⟩ := ePr_get hp
    obtain ⟨f', e1, r⟩ := ed_takeOut h he
    refine ⟨f', ?_, ?_⟩
    · rw [if_pos (decide_eq_true hp), ed_placeOf h hE ha hb, Option.bind_some, plcP, if_pos hp, e1, Option.bind_some, if_pos hp, decide_eq_true hp]
    · rw [if_pos hp]; exact r
  · refine ⟨f, ?_, ?_⟩
    · rw [if_neg (by rw [decide_eq_true_eq]; exact hp), h.len, if_neg hp, decide_eq_false hp]
    · rw [if_neg hp, ← h.len]; exact h
end ED
/-- drawn: an edge turned -/
def turnE (E : List (Nat × Nat)) (s a b : Nat) : List (Nat × Nat) × Nat := if a = b then (E, s) else if 10 * a + b ∈ ePr E then (delE E (10 * a + b), s) else if E.length < 24 then (E ++ [(s, 10 * a + b)], s + 1) else (E, s)
theorem ed_turn {sz : Int32} {f : Nat → Int32} {E : List (Nat × Nat)} (h : edR sz f E) (hE : okE E) {n s q : Nat} (hn : 1 ≤ n) (hn8 : n ≤ 8) (hq : q < 2 ^ 31) : ∃ f', mX3_turnDrawn (nI n) (nI s) sz f (nI q) = some (nI (turnE E s (q % n) (q / 8 % n)).2, nI (turnE E s (q % n) (q / 8 % n)).1.length, f') ∧ edR (nI (turnE E s (q % n) (q / 8 % n)).1.length) f' (turnE E s (q % n) (q / 8 % n)).1 := by
  have h1 : nI q - nI q / nI n * nI n = nI (q % n) := pk_rem hq (by omega) (by omega)
  have h0 : nI q / 8 = nI (q / 8) := pk_div (d := 8) hq (by omega) (by omega)
  have h2 : nI q / 8 - nI q / 8 / nI n * nI n = nI (q / 8 % n) := by rw [h0]; exact pk_rem (by omega) (by omega) (by omega)
  have ha : q % n < 8 := Nat.lt_of_lt_of_le (Nat.mod_lt _ (by omega)) hn8
  have hb : q / 8 % n < 8 := Nat.lt_of_lt_of_le (Nat.mod_lt _ (by omega)) hn8
  have hk : kne (nI n) = true := by
    unfold kne
    exact decide_eq_true (nI_ne0 (by omega) (by omega))
  rw [mX3_turnDrawn, if_pos (show (1 : Int32) ≤ nI n from (nI_leI (a := 1) (by omega) (by omega)).mpr hn), gd_t hk, gd_t hk, h1, h2]
  generalize q % n = a at ha ⊢
  generalize q / 8 % n = b at hb ⊢
  by_cases hab : a = b
  · refine ⟨f, ?_, ?_⟩
    · rw [if_pos (by rw [hab]), turnE, if_pos hab, h.len]
    · rw [turnE, if_pos hab]
      have h' := h
      rw [h.len] at h'
      exact h'
  · rw [if_neg (fun q => hab ((nI_eq (by omega) (by omega)).mp q))]
    obtain ⟨f1, e1, r1⟩ := ed_delIf h hE ha hb
    rw [e1, Option.bind_some, turnE, if_neg hab]
    by_cases hp : 10 * a + b ∈ ePr E
    · rw [if_pos hp] at r1
      refine ⟨f1, ?_, ?_⟩
      · rw [if_pos hp, if_pos rfl, if_pos hp]
        rw [delE, List.length_eraseIdx_of_lt]
        have := List.idxOf_lt_length_of_mem hp
        rwa [ePr, List.length_map] at this
      · rw [if_pos hp]
        have hl : (delE E (10 * a + b)).length = E.length - 1 := by
          rw [delE, List.length_eraseIdx_of_lt]
          have := List.idxOf_lt_length_of_mem hp
          rwa [ePr, List.length_map] at this
        rw [hl]; exact r1
    · rw [if_neg hp] at r1
      obtain ⟨f2, e2, r2⟩ := ed_insIf r1 hE (s := s) ha hb
      refine ⟨f2, ?_, ?_⟩
      · rw [if_neg hp, if_neg (by simp), if_neg hp]
        show (mX3_insertIfItCanBe (nI s) (nI E.length) f1 (nI a) (nI b)).bind _ = _
        rw [e2, Option.bind_some]
        by_cases hl : E.length < 24
        · rw [if_pos ⟨hab, hp, hl⟩, if_pos hl]; simp
        · rw [if_neg (fun q => hl q.2.2), if_neg hl]
      · rw [if_neg hp]
        by_cases hl : E.length < 24
        · rw [if_pos ⟨hab, hp, hl⟩] at r2
          rw [if_pos hl]; simpa using r2
        · rw [if_neg (fun q => hl q.2.2)] at r2
          rw [if_neg hl]; exact r2
