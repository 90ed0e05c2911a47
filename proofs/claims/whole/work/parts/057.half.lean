/-! the half of a knot: both sides alike -/
def lT (G : Nat → Nat → Prop) (met : List Nat) (v x : Nat) : Prop := ∀ D : Nat → Prop, D v → (∀ a x, D x → G a x → a ∈ met → met.idxOf v < met.idxOf a → D a) → D x
def lS (G : Nat → Nat → Prop) (met : List Nat) (v a : Nat) : Prop := ∃ x, lT G met v x ∧ G a x
theorem lT.self {G : Nat → Nat → Prop} {met : List Nat} {v : Nat} : lT G met v v := fun _ h _ => h
theorem lT.more {G : Nat → Nat → Prop} {met : List Nat} {v x a : Nat} (h : lT G met v x) (g : G a x) (hm : a ∈ met) (hl : met.idxOf v < met.idxOf a) : lT G met v a := fun D h0 hs => hs a x (h D h0 hs) g hm hl
theorem m9_le : ∀ k, k < 9 → (-9 : Int32) ≤ nI k := by decide +kernel
theorem plcP_in {met : List Nat} {v : Nat} (h : v ∈ met) : plcP met v = nI (met.idxOf v) := by unfold plcP; rw [if_pos h]
theorem plcP_le {met : List Nat} (hl : met.length ≤ 8) {v : Nat} (hv : v ∈ met) (h : Nat) : plcP met h ≤ plcP met v ↔ ¬ (h ∈ met ∧ met.idxOf v < met.idxOf h) := by
  have hv2 := List.idxOf_lt_length_of_mem hv
  rw [plcP_in hv]
  by_cases hm : h ∈ met
  · have hh := List.idxOf_lt_length_of_mem hm
    rw [plcP_in hm, nI_leI (by omega) (by omega)]
    exact ⟨fun q z => by omega, fun q => by
      rcases Nat.lt_or_ge (met.idxOf v) (met.idxOf h) with z | z
      · exact absurd ⟨hm, z⟩ q
      · exact z⟩
  · unfold plcP
    rw [if_neg hm]
    exact ⟨fun _ z => hm z.1, fun _ => m9_le _ (by omega)⟩
theorem idx_inj {l : List Nat} {a b : Nat} (ha : a ∈ l) (hb : b ∈ l) (h : l.idxOf a = l.idxOf b) : a = b := by
  have h1 : l[l.idxOf a]? = some a := by
    rw [List.getElem?_eq_getElem (List.idxOf_lt_length_of_mem ha), List.getElem_idxOf]
  have h2 : l[l.idxOf b]? = some b := by
    rw [List.getElem?_eq_getElem (List.idxOf_lt_length_of_mem hb), List.getElem_idxOf]
  rw [h, h2, Option.some.injEq] at h1
  exact h1.symm
theorem metOK.parent {P met : List Nat} (h : metOK P met) {v : Nat} (hv : v ∈ met) (h0 : v ≠ 0) : ∃ u, u ∈ met ∧ 10 * u + v ∈ P ∧ met.idxOf u < met.idxOf v := by
  obtain ⟨a, b, ⟨t, c⟩, d⟩ := h
  obtain ⟨p, q, e⟩ := List.append_of_mem hv
  have hp : p ≠ [] := by
    intro z
    subst z
    rw [c, List.nil_append, List.cons.injEq] at e
    exact h0 e.1.symm
  obtain ⟨u, hu, hP⟩ := d p v q e hp
  have hvp : v ∉ p := by
    rw [e, List.nodup_append] at a
    exact fun z => a.2.2 v z v List.mem_cons_self rfl
  refine ⟨u, by rw [e]; exact List.mem_append_left _ hu, hP, ?_⟩
  rw [e, List.idxOf_append, if_pos hu, List.idxOf_append, if_neg hvp, List.idxOf_cons_self]
  have := List.idxOf_lt_length_of_mem hu
  omega
section HC
variable {g : Int64} {ms : Int32} {mf : Nat → Int32} {met : List Nat}
theorem order_n (hr : rowR 8 ms mf (met.map nI)) (hb : ∀ x, x ∈ met → x < 8) {v : Nat} (hv : v < 2 ^ 31) : mX9_orderOf ms mf (nI v) = some (plcP met v) := by
  rw [mX9_orderOf, placeOf_n hr, Option.bind_some, plc_map (fun x hx => by have := hb x hx; omega) hv]
theorem late_n (hr : rowR 8 ms mf (met.map nI)) (hn : met.Nodup) (hb : ∀ x, x ∈ met → x < 8) {v : Nat} (hv : v ∈ met) : ∃ s, mX9_startsOfLateWays g ms mf (nI v) = some s ∧ ∀ a, a < 8 → (bt s a = true ↔ lS (gE g) met v a) := by
  have hv8 := hb v hv
  have hml : met.length ≤ 8 := nodup8 hn hb
  obtain ⟨c, ec, sc, bc⟩ := column_n g hv8
  have fin : ∀ S : Int32, s8 S → (∀ i, bt S i = true → lS (gE g) met v i) → (∀ a, gE g a v → bt S a = true) → (∀ h, bt S h = true → h ∈ met → met.idxOf v < met.idxOf h → ∀ a, gE g a h → bt S a = true) → ∀ a, a < 8 → (bt S a = true ↔ lS (gE g) met v a) := by
    intro S s1 s2 s3 s4 a _
    refine ⟨s2 a, fun ⟨x, hx, hg⟩ => ?_⟩
    exact hx (fun x => ∀ a, gE g a x → bt S a = true) s3 (fun b x hD hg hm hl => s4 b (hD b hg) hm hl) a hg
  have key : ∀ (j st fuel : Nat) (S W : Int32), st + j = 8 → j < fuel → s8 S → s8 W → (∀ i, bt W i = true → bt S i = true) → (∀ i, bt S i = true → lS (gE g) met v i) → (∀ a, gE g a v → bt S a = true) → (∀ h, bt S h = true → ¬ bt W h = true → h ∈ met → met.idxOf v < met.idxOf h → ∀ a, gE g a h → bt S a = true) → ct S = st + ct W → ∃ s, mX9_startsOfLateWays_L14 g ms mf (nI v) fuel S W (nI st) = some s ∧ ∀ a, a < 8 → (bt s a = true ↔ lS (gE g) met v a) := by
    intro j
    induction j with
    | zero =>
      intro st fuel S W hj hf s1 s2 s3 s4 s5 s6 s7
      obtain ⟨m, rfl⟩ := fuel_s hf
      have hle := ct_le S
      have h0 : W = 0 := ct0 s2 (by omega)
      rw [mX9_startsOfLateWays_L14, if_pos (le8_t (by omega) (by omega))]
      exact ⟨S, rfl, fin S s1 s4 s5 fun h hh => s6 h hh (by rw [h0, b_0]; decide)⟩
    | succ j ih =>
      intro st fuel S W hj hf s1 s2 s3 s4 s5 s6 s7
      obtain ⟨m, rfl⟩ := fuel_s hf
      rw [mX9_startsOfLateWays_L14, if_neg (le8_f (by omega))]
      by_cases h0 : W = 0
      · rw [if_pos h0]
        exact ⟨S, rfl, fin S s1 s4 s5 fun h hh => s6 h hh (by rw [h0, b_0]; decide)⟩
      · rw [if_neg h0]
        obtain ⟨k, hk, ek, hbk⟩ := first_n s2 h0
        have hcd := ct_del hk hbk
        rw [ek, order_n hr hb (by omega), Option.bind_some, order_n hr hb (by omega), Option.bind_some]
        by_cases hlate : k ∈ met ∧ met.idxOf v < met.idxOf k
        · rw [if_neg (fun q => (plcP_le hml hv k).mp q hlate)]
          obtain ⟨d, ed, sd, bd⟩ := column_n g hk
          have hSk : lT (gE g) met v k := by
            obtain ⟨x, hx, hg⟩ := s4 k (s3 k hbk)
            exact hx.more hg hlate.1 hlate.2
          have sF : s8 (d &&& (S ^^^ (-1))) := s8_andl sd _
          have bF : ∀ i, i < 32 → bt (d &&& (S ^^^ (-1))) i = (bt d i && !bt S i) := fun i hi => by rw [b_and, b_not _ hi]
          rw [ed, Option.bind_some, mX9_startsOfLateWays_J62, nI_1, ek]
          generalize d &&& (S ^^^ (-1)) = F at sF bF ⊢
          have hF8 : ∀ i, bt F i = true → i < 8 := fun i hi => by
            rcases Nat.lt_or_ge i 8 with q | q
            · exact q
            · rw [sF i q] at hi; cases hi
          have hF : ∀ i, bt F i = true → gE g i k ∧ ¬ bt S i = true := fun i hi => by
            have h8 := hF8 i hi
            rw [bF i (by omega), Bool.and_eq_true, Bool.not_eq_true', bd i h8] at hi
            exact ⟨⟨h8, hk, hi.1⟩, by rw [hi.2]; decide⟩
          have hW : ∀ i, bt ((W &&& (mX5_only (nI k) ^^^ (-1))) ||| F) i = ((bt W i && !decide (i = k)) || bt F i) := by
            intro i
            rcases Nat.lt_or_ge i 32 with q | q
            · rw [b_or, del_b W hk q]
            · rw [b_big q, b_big q, b_big q]; rfl
          refine ih (st + 1) m (S ||| F) _ (by omega) (by omega) (s8_or s1 sF) (s8_or (s8_andl s2 _) sF) (fun i hi => ?_) (fun i hi => ?_) (fun a ha => ?_) (fun h hh hw hm hl a ha => ?_) ?_
          · rw [hW, Bool.or_eq_true, Bool.and_eq_true] at hi
            rw [b_or, Bool.or_eq_true]
            exact hi.imp (fun q => s3 i q.1) id
          · rw [b_or, Bool.or_eq_true] at hi
            rcases hi with q | q
            · exact s4 i q
            · exact ⟨k, hSk, (hF i q).1⟩
          · rw [b_or, s5 a ha]; rfl
          · rw [b_or, Bool.or_eq_true]
            rw [hW, Bool.or_eq_true, Bool.and_eq_true, Bool.not_eq_true', decide_eq_false_iff_not] at hw
            by_cases q : h = k
            · subst q
              by_cases z : bt S a = true
              · exact Or.inl z
              · refine Or.inr ?_
                rw [bF a (by have := ha.1; omega), bd a ha.1, ha.2.2, Bool.true_and, Bool.not_eq_true']
                exact Bool.eq_false_iff.mpr z
            · rw [b_or, Bool.or_eq_true] at hh
              rcases hh with z | z
              · exact Or.inl (s6 h z (fun y => hw (Or.inl ⟨y, q⟩)) hm hl a ha)
              · exact absurd (Or.inr z) hw
          · rw [ct_or (fun i _ hi => Bool.eq_false_iff.mpr fun z => (hF i z).2 hi), ct_or (fun i hi8 hi => ?_)]
            · omega
            · rw [del_b W hk (by omega), Bool.and_eq_true] at hi
              exact Bool.eq_false_iff.mpr fun z => (hF i z).2 (s3 i hi.1)
        · rw [if_pos ((plcP_le hml hv k).mpr hlate), mX9_startsOfLateWays_J62, nI_1, or0, or0, ek]
          refine ih (st + 1) m S _ (by omega) (by omega) s1 (s8_andl s2 _) (fun i hi => ?_) s4 s5 (fun h hh hw hm hl a ha => ?_) (by omega)
          · rw [b_and, Bool.and_eq_true] at hi
            exact s3 i hi.1
          · have hh8 := hb h hm
            rw [del_b W hk (by omega), Bool.and_eq_true, Bool.not_eq_true', decide_eq_false_iff_not] at hw
            by_cases q : h = k
            · subst q; exact absurd ⟨hm, hl⟩ hlate
            · exact s6 h hh (fun y => hw ⟨y, q⟩) hm hl a ha
  rw [mX9_startsOfLateWays, ec, Option.bind_some]
  have hc8 : ∀ i, bt c i = true → i < 8 := fun i hi => by
    rcases Nat.lt_or_ge i 8 with q | q
    · exact q
    · rw [sc i q] at hi; cases hi
  exact key 8 0 kFU c c rfl (kFU_b (by omega)) sc sc (fun _ q => q) (fun i hi => ⟨v, lT.self, hc8 i hi, hv8, by rw [← bc i (hc8 i hi)]; exact hi⟩) (fun a ha => by rw [bc a ha.1]; exact ha.2.2) (fun h hh hw => absurd hh hw) (by omega)
theorem half_n (hr : rowR 8 ms mf (met.map nI)) (hn : met.Nodup) (hb : ∀ x, x ∈ met → x < 8) {v : Nat} (hv : v ∈ met) (h0 : v ≠ 0) (hp : ∃ u, u ∈ met ∧ gE g u v) : ∃ u, mX9_halfOf g ms mf (nI v) = some (nI u) ∧ u ∈ met ∧ lS (gE g) met v u ∧ ∀ a, a ∈ met → lS (gE g) met v a → met.idxOf u ≤ met.idxOf a := by
  have hv8 := hb v hv
  have hml : met.length ≤ 8 := nodup8 hn hb
  obtain ⟨s, es, bs⟩ := late_n (g := g) hr hn hb hv
  have key : ∀ (l : List Nat) (k fuel : Nat), met.drop k = l → k ≤ met.length → l.length < fuel → mX9_halfOf_L25 ms mf s fuel (nI k) = some (match l.find? (fun a => bt s a) with | some u => nI u | none => -9) := by
    intro l
    induction l with
    | nil =>
      intro k fuel hd hke hf
      obtain ⟨m, rfl⟩ := fuel_s hf
      have hk := dropN hd
      rw [mX9_halfOf_L25, mX6_size, if_pos (by rw [hr.1, List.length_map]; exact (nI_leI (by omega) (by omega)).mpr hk)]
      rfl
    | cons a l ih =>
      intro k fuel hd hke hf
      obtain ⟨m, rfl⟩ := fuel_s hf
      obtain ⟨g1, g2, g3⟩ := dropC hd
      have ha8 := hb a (List.mem_of_getElem? g2)
      have hat : mX6_at 8 ms mf (nI k) = nI a := by
        rw [at_n hr (by omega), List.getD_eq_getElem?_getD, List.getElem?_map, g2]; rfl
      rw [mX9_halfOf_L25, mX6_size, if_neg (by rw [hr.1, List.length_map]; exact fun q => by have := (nI_leI (by omega) (by omega)).mp q; omega), hat, isIn_n _ ha8, nI_1, List.find?_cons]
      cases hbs : bt s a with
      | true => rw [if_pos rfl]
      | false =>
        rw [if_neg (by decide)]
        exact ih (k + 1) m g3 (by omega) (by simp only [List.length_cons] at hf; omega)
  rw [mX9_halfOf, order_n hr hb (by omega), Option.bind_some, plcP_in hv, if_neg (by rw [i_ne9 (by have := List.idxOf_lt_length_of_mem hv; omega)]; exact id), if_neg (show ¬ nI v = (0 : Int32) from fun q => h0 ((nI_eq (b := 0) (by omega) (by omega)).mp q)), es, Option.bind_some]
  have k0 : mX9_halfOf_L25 ms mf s kFU 0 = _ := key met 0 kFU rfl (Nat.zero_le _) (kFU_b (by omega))
  rw [k0]
  cases hfd : met.find? (fun a => bt s a) with
  | none =>
    rw [List.find?_eq_none] at hfd
    obtain ⟨u, hu, hg⟩ := hp
    exact absurd ((bs u (hb u hu)).mpr ⟨v, lT.self, hg⟩) (hfd u hu)
  | some u =>
    obtain ⟨hpu, as, bs', e, hno⟩ := List.find?_eq_some_iff_append.mp hfd
    have hum : u ∈ met := by rw [e]; exact List.mem_append_right _ List.mem_cons_self
    refine ⟨u, rfl, hum, (bs u (hb u hum)).mp hpu, fun a ha hla => ?_⟩
    have hba := (bs a (hb a ha)).mpr hla
    have na : a ∉ as := fun q => by have := hno a q; rw [hba] at this; cases this
    have nu : u ∉ as := fun q => by have := hno u q; rw [hpu] at this; cases this
    rw [e, List.idxOf_append, if_neg nu, List.idxOf_append, if_neg na, List.idxOf_cons_self]
    omega
end HC
section HM
variable {E : List (Nat × Nat)} {now od : Nat → Int32} {L nx : Nat} {met : List Nat} {v : Nat}
def bvH (G : Nat → Nat → Prop) (met : List Nat) (v : Nat) (b : Int32) : Prop := b = -9 ∨ ∃ u, b = nI u ∧ u ∈ met ∧ u ≠ v ∧ lS G met v u
def bleH (met : List Nat) (b : Int32) (a : Nat) : Prop := ∃ u, b = nI u ∧ u ∈ met ∧ met.idxOf u ≤ met.idxOf a
theorem minner (h : mdR now L E nx) (hE : okE E) (hok : metOK (ePr E) met) (hod : ∀ v, v < 8 → od v = plcP met v) (hv : v ∈ met) (K : Int32 → Int32 → Int32 → Option Int32) (rd : Int32) : ∀ (l : List (Nat × Nat)) (k fuel : Nat) (T b : Int32), E.drop k = l → k ≤ E.length → l.length < fuel → s8 T → (∀ i, bt T i = true → lT (pE (ePr E)) met v i) → bvH (pE (ePr E)) met v b → ∃ T2 b2, mX11_halfOf_L39 K now od (nI L) (nI v) rd fuel T b (nI k) = K T2 b2 (rd + 1) ∧ s8 T2 ∧ (∀ i, bt T i = true → bt T2 i = true) ∧ (∀ i, bt T2 i = true → lT (pE (ePr E)) met v i) ∧ bvH (pE (ePr E)) met v b2 ∧ (∀ a, bleH met b a → bleH met b2 a) ∧ ∀ e, e ∈ l → bt T (e.2 % 10) = true → e.2 / 10 ∈ met → (e.2 / 10 ≠ v → bleH met b2 (e.2 / 10)) ∧ (met.idxOf v < met.idxOf (e.2 / 10) → bt T2 (e.2 / 10) = true) := by
  have h4 := h.2.2.2.1
  have hml := hok.len
  have hv8 := hok.2.1 v hv
  intro l
  induction l with
  | nil =>
    intro k fuel T b hd hke hf hT hTl hb
    obtain ⟨m, rfl⟩ := fuel_s hf
    have hk := dropN hd
    rw [mX11_halfOf_L39, md_many h, Option.bind_some, if_pos ((nI_leI (by omega) (by omega)).mpr hk)]
    exact ⟨T, b, rfl, hT, fun _ q => q, hTl, hb, fun _ q => q, fun e he => absurd he List.not_mem_nil⟩
  | cons e l ih =>
    intro k fuel T b hd hke hf hT hTl hb
    obtain ⟨m, rfl⟩ := fuel_s hf
    obtain ⟨g1, g2, g3⟩ := dropC hd
    have he := List.mem_of_getElem? g2
    have hb8 := (hE.2.1 e he).2
    have hfu : l.length < m := by simp only [List.length_cons] at hf; omega
    rw [mX11_halfOf_L39, md_many h, Option.bind_some, if_neg (fun q => by have := (nI_leI (by omega) (by omega)).mp q; omega), md_from h hE g2, Option.bind_some, md_to h hE g2, Option.bind_some, has_n _ (by omega), nI_1]
    have hskip : ¬ (bt T (e.2 % 10) = true ∧ e.2 / 10 ∈ met) → ∃ T2 b2, mX11_halfOf_L39 K now od (nI L) (nI v) rd m T b (nI (k + 1)) = K T2 b2 (rd + 1) ∧ s8 T2 ∧ (∀ i, bt T i = true → bt T2 i = true) ∧ (∀ i, bt T2 i = true → lT (pE (ePr E)) met v i) ∧ bvH (pE (ePr E)) met v b2 ∧ (∀ a, bleH met b a → bleH met b2 a) ∧ ∀ x, x ∈ e :: l → bt T (x.2 % 10) = true → x.2 / 10 ∈ met → (x.2 / 10 ≠ v → bleH met b2 (x.2 / 10)) ∧ (met.idxOf v < met.idxOf (x.2 / 10) → bt T2 (x.2 / 10) = true) := by
      intro hno
      obtain ⟨T2, b2, q1, q2, q3, q4, q5, q6, q7⟩ := ih (k + 1) m T b g3 (by omega) hfu hT hTl hb
      refine ⟨T2, b2, q1, q2, q3, q4, q5, q6, fun x hx z1 z2 => ?_⟩
      rcases List.mem_cons.mp hx with y | y
      · subst y; exact absurd ⟨z1, z2⟩ hno
      · exact q7 x y z1 z2
    by_cases hh : bt T (e.2 % 10) = true
    · rw [if_pos hh, gd_n (by omega) (by omega), i_cl (a := e.2 / 10) (by omega), hod _ (by omega)]
      by_cases hin : e.2 / 10 ∈ met
      · rw [if_neg (fun q => (plcP_9 hml).mp q hin)]
        have hG : pE (ePr E) (e.2 / 10) (e.2 % 10) := ⟨by omega, hb8.2.1, by rw [show 10 * (e.2 / 10) + e.2 % 10 = e.2 by omega]; exact List.mem_map.mpr ⟨e, he, rfl⟩⟩
        have hlS : lS (pE (ePr E)) met v (e.2 / 10) := ⟨_, hTl _ hh, hG⟩
        have hJ : ∀ s, bvH (pE (ePr E)) met v s → (∀ c, bleH met b c → bleH met s c) → (e.2 / 10 ≠ v → bleH met s (e.2 / 10)) → ∃ T2 b2, mX11_halfOf_J121 (mX11_halfOf_L39 K now od (nI L) (nI v) rd m) od (nI v) T (nI k) (nI (e.2 / 10)) s = K T2 b2 (rd + 1) ∧ s8 T2 ∧ (∀ i, bt T i = true → bt T2 i = true) ∧ (∀ i, bt T2 i = true → lT (pE (ePr E)) met v i) ∧ bvH (pE (ePr E)) met v b2 ∧ (∀ a, bleH met b a → bleH met b2 a) ∧ ∀ x, x ∈ e :: l → bt T (x.2 % 10) = true → x.2 / 10 ∈ met → (x.2 / 10 ≠ v → bleH met b2 (x.2 / 10)) ∧ (met.idxOf v < met.idxOf (x.2 / 10) → bt T2 (x.2 / 10) = true) := by
          intro s s1 s2 s3
          rw [mX11_halfOf_J121, gd_n (by omega) (by omega), gd_n hv8 (by omega), i_cl (a := e.2 / 10) (by omega), i_cl (a := v) (by omega), hod _ (by omega), hod _ hv8, nI_1]
          have go : ∀ T', s8 T' → (∀ i, bt T i = true → bt T' i = true) → (∀ i, bt T' i = true → lT (pE (ePr E)) met v i) → (met.idxOf v < met.idxOf (e.2 / 10) → bt T' (e.2 / 10) = true) → ∃ T2 b2, mX11_halfOf_L39 K now od (nI L) (nI v) rd m T' s (nI (k + 1)) = K T2 b2 (rd + 1) ∧ s8 T2 ∧ (∀ i, bt T i = true → bt T2 i = true) ∧ (∀ i, bt T2 i = true → lT (pE (ePr E)) met v i) ∧ bvH (pE (ePr E)) met v b2 ∧ (∀ a, bleH met b a → bleH met b2 a) ∧ ∀ x, x ∈ e :: l → bt T (x.2 % 10) = true → x.2 / 10 ∈ met → (x.2 / 10 ≠ v → bleH met b2 (x.2 / 10)) ∧ (met.idxOf v < met.idxOf (x.2 / 10) → bt T2 (x.2 / 10) = true) := by
            intro T' t1 t2 t3 t4
            obtain ⟨T2, b2, q1, q2, q3, q4, q5, q6, q7⟩ := ih (k + 1) m T' s g3 (by omega) hfu t1 t3 s1
            refine ⟨T2, b2, q1, q2, fun i hi => q3 i (t2 i hi), q4, q5, fun a ha => q6 a (s2 a ha), fun x hx z1 z2 => ?_⟩
            rcases List.mem_cons.mp hx with y | y
            · subst y; exact ⟨fun z => q6 _ (s3 z), fun z => q3 _ (t4 z)⟩
            · exact q7 x y (t2 _ z1) z2
          by_cases hlate : e.2 / 10 ∈ met ∧ met.idxOf v < met.idxOf (e.2 / 10)
          · rw [if_neg (fun q => (plcP_le hml hv _).mp q hlate)]
            have ho : ∀ i, bt (T ||| 1 <<< (nI (e.2 / 10) &&& 31)) i = (bt T i || decide (i = e.2 / 10)) := fun i => by
              rw [b_or]; congr 1; exact only_b (by omega) i
            refine go _ (s8_or hT (s8_only (k := e.2 / 10) (by omega))) (fun i hi => by rw [ho, hi]; rfl) (fun i hi => ?_) (fun _ => by rw [ho, decide_eq_true rfl, Bool.or_true])
            rw [ho, Bool.or_eq_true, decide_eq_true_eq] at hi
            rcases hi with q | q
            · exact hTl i q
            · rw [q]; exact (hTl _ hh).more hG hlate.1 hlate.2
          · rw [if_pos ((plcP_le hml hv _).mpr hlate), or0]
            exact go T hT (fun _ q => q) hTl (fun z => absurd ⟨hin, z⟩ hlate)
        by_cases hfv : e.2 / 10 = v
        · rw [if_pos (by rw [hfv])]
          exact hJ b hb (fun _ q => q) (fun q => absurd hfv q)
        · rw [if_neg (fun q => hfv ((nI_eq (by omega) (by omega)).mp q))]
          have hnew : bvH (pE (ePr E)) met v (nI (e.2 / 10)) := Or.inr ⟨_, rfl, hin, hfv, hlS⟩
          have hnle : bleH met (nI (e.2 / 10)) (e.2 / 10) := ⟨_, rfl, hin, Nat.le_refl _⟩
          rcases hb with hb | ⟨u, rfl, hum, huv, huS⟩
          · rw [if_pos hb]
            refine hJ _ hnew (fun c ⟨u, hu, hum, _⟩ => ?_) fun _ => hnle
            rw [hb] at hu
            have := hok.2.1 u hum
            exact absurd hu.symm (by rw [i_ne9 (by omega)]; exact id)
          · have hu8 := hok.2.1 u hum
            rw [if_neg (by rw [i_ne9 (by omega)]; exact id), gd_n (by omega) (by omega), gd_n hu8 (by omega), i_cl (a := u) (by omega), hod _ hu8]
            have hcmp := plcP_le hml hin u
            by_cases hlt : u ∈ met ∧ met.idxOf (e.2 / 10) < met.idxOf u
            · rw [if_neg (fun q => hcmp.mp q hlt)]
              refine hJ _ hnew (fun c ⟨w, hw, hwm, hwc⟩ => ⟨_, rfl, hin, ?_⟩) fun _ => hnle
              have : u = w := (nI_eq (by omega) (by have := hok.2.1 w hwm; omega)).mp hw
              subst this
              omega
            · rw [if_pos (hcmp.mpr hlt)]
              refine hJ (nI u) (Or.inr ⟨u, rfl, hum, huv, huS⟩) (fun c hc => hc) fun _ => ⟨u, rfl, hum, ?_⟩
              rcases Nat.lt_or_ge (met.idxOf (e.2 / 10)) (met.idxOf u) with z | z
              · exact absurd ⟨hum, z⟩ hlt
              · exact z
      · rw [if_pos ((plcP_9 hml).mpr hin)]
        exact hskip fun q => hin q.2
    · rw [if_neg hh]
      exact hskip fun q => hh q.1
theorem mhalf_n (h : mdR now L E nx) (hE : okE E) (hok : metOK (ePr E) met) (hod : ∀ v, v < 8 → od v = plcP met v) (hv : v ∈ met) (h0 : v ≠ 0) : ∃ b, mX11_halfOf now od (nI L) (nI v) = some b ∧ bvH (pE (ePr E)) met v b ∧ ∀ a, a ∈ met → a ≠ v → lS (pE (ePr E)) met v a → bleH met b a := by
  have hml := hok.len
  have hv8 := hok.2.1 v hv
  have key : ∀ (j k fuel : Nat) (T b : Int32), k + j = 8 → j < fuel → s8 T → bt T v = true → (∀ i, bt T i = true → lT (pE (ePr E)) met v i) → bvH (pE (ePr E)) met v b → ((∀ e, e ∈ E → bt T (e.2 % 10) = true → e.2 / 10 ∈ met → (e.2 / 10 ≠ v → bleH met b (e.2 / 10)) ∧ (met.idxOf v < met.idxOf (e.2 / 10) → bt T (e.2 / 10) = true)) ∨ k + 1 ≤ ct T) → ∃ b', mX11_halfOf_L29 now od (nI L) (nI v) fuel T b (nI k) = some b' ∧ bvH (pE (ePr E)) met v b' ∧ ∀ a, a ∈ met → a ≠ v → lS (pE (ePr E)) met v a → bleH met b' a := by
    intro j
    induction j with
    | zero =>
      intro k fuel T b hk hf s1 s2 s3 s4 s5
      obtain ⟨m, rfl⟩ := fuel_s hf
      rw [mX11_halfOf_L29, if_pos (le8_t (by omega) (by omega))]
      refine ⟨b, rfl, s4, fun a ha hav ⟨x, hx, hg⟩ => ?_⟩
      rcases s5 with s5 | s5
      · have hcl : bt T x = true := hx (fun x => bt T x = true) s2 fun c y hy hg hc hl => by
          obtain ⟨e, he, ee⟩ := List.mem_map.mp hg.2.2
          have e1 : e.2 / 10 = c := by have := hg.2.1; omega
          have e2 : e.2 % 10 = y := by have := hg.2.1; omega
          have := (s5 e he (by rw [e2]; exact hy) (by rw [e1]; exact hc)).2
          rw [e1] at this
          exact this hl
        obtain ⟨e, he, ee⟩ := List.mem_map.mp hg.2.2
        have e1 : e.2 / 10 = a := by have := hg.2.1; omega
        have e2 : e.2 % 10 = x := by have := hg.2.1; omega
        have := (s5 e he (by rw [e2]; exact hcl) (by rw [e1]; exact ha)).1
        rw [e1] at this
        exact this hav
      · have := ct_le T
        omega
    | succ j ih =>
      intro k fuel T b hk hf s1 s2 s3 s4 s5
      obtain ⟨m, rfl⟩ := fuel_s hf
      obtain ⟨T2, b2, q1, q2, q3, q4, q5, q6, q7⟩ := minner h hE hok hod hv (mX11_halfOf_L29 now od (nI L) (nI v) m) (nI k) E 0 kFU T b rfl (Nat.zero_le _) (by have := hE.1; exact kFU_b (by omega)) s1 s3 s4
      rw [mX11_halfOf_L29, if_neg (le8_f (by omega))]
      have q1' : mX11_halfOf_L39 (mX11_halfOf_L29 now od (nI L) (nI v) m) now od (nI L) (nI v) (nI k) kFU T b 0 = _ := q1
      rw [q1', nI_1]
      refine ih (k + 1) m T2 b2 (by omega) (by omega) q2 (q3 v s2) q4 q5 ?_
      by_cases hnew : ∃ i, i < 8 ∧ bt T2 i = true ∧ ¬ bt T i = true
      · obtain ⟨i, i1, i2, i3⟩ := hnew
        have hlt := ct_lt (fun i _ q => q3 i q) i1 i2 i3
        rcases s5 with s5 | s5
        · refine Or.inl ?_
          -- closed already: nothing new can have come
          exfalso
          have hcl : bt T i = true := q4 i i2 (fun x => bt T x = true) s2 fun c y hy hg hc hl => by
            obtain ⟨e, he, ee⟩ := List.mem_map.mp hg.2.2
            have e1 : e.2 / 10 = c := by have := hg.2.1; omega
            have e2 : e.2 % 10 = y := by have := hg.2.1; omega
            have := (s5 e he (by rw [e2]; exact hy) (by rw [e1]; exact hc)).2
            rw [e1] at this
            exact this hl
          exact i3 hcl
        · exact Or.inr (by omega)
      · refine Or.inl fun e he z1 z2 => ?_
        have hb8 := (hE.2.1 e he).2
        have : bt T (e.2 % 10) = true := Classical.byContradiction fun w => hnew ⟨_, hb8.2.1, z1, w⟩
        exact q7 e he this z2
  rw [mX11_halfOf, if_neg (show ¬ nI v = (0 : Int32) from fun q => h0 ((nI_eq (b := 0) (by omega) (by omega)).mp q)), gd_n hv8 (by omega), i_cl (a := v) (by omega), hod v hv8, if_neg (fun q => (plcP_9 hml).mp q hv)]
  have ho : ∀ i, bt (1 <<< (nI v &&& 31)) i = decide (i = v) := fun i => only_b (by omega) i
  exact key 8 0 kFU _ (-9) rfl (kFU_b (by omega)) (s8_only (k := v) hv8) (by rw [ho, decide_eq_true rfl]) (fun i hi => by
    rw [ho, decide_eq_true_eq] at hi
    rw [hi]; exact lT.self) (Or.inl rfl) (Or.inr (by
    have : ct 0 < ct (1 <<< (nI v &&& 31)) := ct_lt (fun i _ q => by rw [b_0] at q; cases q) hv8 (by rw [ho, decide_eq_true rfl]) (by rw [b_0]; decide)
    omega))
theorem both_half {g : Int64} {ms : Int32} {mf : Nat → Int32} (h : mdR now L E nx) (hE : okE E) (hg : gE g = pE (ePr E)) (hr : rowR 8 ms mf (met.map nI)) (hok : metOK (ePr E) met) (hod : ∀ v, v < 8 → od v = plcP met v) {v : Nat} (hv8 : v < 8) : ∃ r, mX9_halfOf g ms mf (nI v) = some r ∧ mX11_halfOf now od (nI L) (nI v) = some r := by
  have hml := hok.len
  by_cases h0 : v = 0
  · subst h0
    refine ⟨-9, ?_, by rw [mX11_halfOf]; exact if_pos rfl⟩
    rw [mX9_halfOf, order_n hr hok.2.1 (by omega), Option.bind_some]
    by_cases q : plcP met 0 = -9
    · rw [if_pos q]
    · rw [if_neg q]; exact if_pos rfl
  · by_cases hv : v ∈ met
    · obtain ⟨p, p1, p2, p3⟩ := hok.parent hv h0
      have hp8 := hok.2.1 p p1
      have hpg : pE (ePr E) p v := ⟨hp8, hv8, p2⟩
      obtain ⟨u, u1, u2, u3, u4⟩ := half_n (g := g) hr hok.1 hok.2.1 hv h0 ⟨p, p1, by rw [hg]; exact hpg⟩
      obtain ⟨b, b1, b2, b3⟩ := mhalf_n h hE hok hod hv h0
      rw [hg] at u3 u4
      refine ⟨nI u, u1, ?_⟩
      rw [b1]
      have huv : u ≠ v := by
        intro z
        subst z
        have := u4 p p1 ⟨u, lT.self, hpg⟩
        omega
      obtain ⟨w, w1, w2, w3⟩ := b3 u u2 huv u3
      rcases b2 with b2 | ⟨w', e1, e2, e3, e4⟩
      · have := hok.2.1 w w2
        rw [b2] at w1
        exact absurd w1.symm (by rw [i_ne9 (by omega)]; exact id)
      · have hww : w' = w := (nI_eq (by have := hok.2.1 w' e2; omega) (by have := hok.2.1 w w2; omega)).mp (e1.symm.trans w1)
        subst hww
        have := u4 w' e2 e4
        rw [w1, idx_inj e2 u2 (by omega)]
    · refine ⟨-9, ?_, ?_⟩
      · rw [mX9_halfOf, order_n hr hok.2.1 (by omega), Option.bind_some, if_pos ((plcP_9 hml).mpr hv)]
      · rw [mX11_halfOf, if_neg (show ¬ nI v = (0 : Int32) from fun q => h0 ((nI_eq (b := 0) (by omega) (by omega)).mp q)), gd_n hv8 (by omega), i_cl (a := v) (by omega), hod v hv8, if_pos ((plcP_9 hml).mpr hv)]
end HM
