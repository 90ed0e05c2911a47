/-! keep, again, graph as whole calls -/
section KG
variable {sz : Int32} {f : Nat → Int32} {E : List (Nat × Nat)} {now : Nat → Int32} {nx n B : Nat} {ks : Int32} {ik kp : Nat → Int32} {a0 a1 a2 c0 c1 c2 : Int32} {af cf : Nat → Int32}
theorem bt_on {s j : Nat} (hs : s < 2) (hj : j < 2) : bt (ks ||| mX5_only (nI s)) j = (bt ks j || decide (j = s)) := by rw [b_or, only_b (by omega)]
theorem both_keep (h : edR sz f E) (hd : mdR now 0 E nx) (hE : okE E) (h0 : 1 ≤ nx) (hB : nx ≤ B) (hs0 : slt (bt ks 0) (ik 0) a0 a1 a2 af kp 0 n B) (hs1 : slt (bt ks 1) (ik 1) c0 c1 c2 cf kp 1 n B) (p : Int32) : ∃ r ks' a0' a1' a2' af' c0' c1' c2' cf' ik' kp', mX10_keep ks (nI n) (nI nx) sz f a0 a1 a2 af c0 c1 c2 cf p = some (r, ks', a0', a1', a2', af', c0', c1', c2', cf') ∧ mX11_keep now ik kp p = some (r, ik', kp') ∧ slt (bt ks' 0) (ik' 0) a0' a1' a2' af' kp' 0 n B ∧ slt (bt ks' 1) (ik' 1) c0' c1' c2' cf' kp' 1 n B := by
  rw [mX10_keep, mX11_keep]
  rcases in_0 p (m := 1) (k := 1) rfl (by omega) with ⟨i, hi, rfl, ei⟩ | ⟨hp, ei⟩
  · rw [if_pos ei]
    rcases (show i = 0 ∨ i = 1 by omega) with rfl | rfl
    · obtain ⟨f', e1, r1⟩ := ed_copy h a0 (nI n) a1 (nI nx) (sz2 := a2) (f2 := af)
      obtain ⟨kp', e2, q1, q2⟩ := keep_l ik (s := 0) (by omega) hd kp
      rw [if_pos (show nI 0 = 0 from rfl), e1, Option.bind_some, gd_n (by omega) (by omega), e2, mX3_size, mX6_size]
      refine ⟨_, _, _, _, _, _, _, _, _, _, _, _, rfl, rfl, Or.inr ⟨?_, ?_, E, nx, rfl, rfl, r1, hd.toB.copy fun j hj => ?_, hE, h0, hB⟩, ?_⟩
      · rw [bt_on (by omega) (by omega), decide_eq_true rfl, Bool.or_true]
      · rw [upd_s]; exact nar1
      · rw [q1 j hj, Nat.mul_zero, Nat.zero_add]
      · rw [bt_on (by omega) (by omega), decide_eq_false (by omega), Bool.or_false, upd_n (by omega)]
        rcases hs1 with z | ⟨z1, z2, E2, nx2, w1, w2, w3, w4, w5, w6, w7⟩
        · exact Or.inl z
        · exact Or.inr ⟨z1, z2, E2, nx2, w1, w2, w3, w4.copy fun j hj => q2 _ (by omega), w5, w6, w7⟩
    · obtain ⟨f', e1, r1⟩ := ed_copy h c0 (nI n) c1 (nI nx) (sz2 := c2) (f2 := cf)
      obtain ⟨kp', e2, q1, q2⟩ := keep_l ik (s := 1) (by omega) hd kp
      rw [if_neg (by decide), if_pos (show nI 1 = 1 from rfl), e1, Option.bind_some, gd_n (by omega) (by omega), e2, mX3_size, mX6_size]
      refine ⟨_, _, _, _, _, _, _, _, _, _, _, _, rfl, rfl, ?_, Or.inr ⟨?_, ?_, E, nx, rfl, rfl, r1, hd.toB.copy fun j hj => ?_, hE, h0, hB⟩⟩
      · rw [bt_on (by omega) (by omega), decide_eq_false (by omega), Bool.or_false, upd_n (by omega)]
        rcases hs0 with z | ⟨z1, z2, E2, nx2, w1, w2, w3, w4, w5, w6, w7⟩
        · exact Or.inl z
        · exact Or.inr ⟨z1, z2, E2, nx2, w1, w2, w3, w4.copy fun j hj => q2 _ (by omega), w5, w6, w7⟩
      · rw [bt_on (by omega) (by omega), decide_eq_true rfl, Bool.or_true]
      · rw [upd_s]; exact nar1
      · rw [q1 j hj, Nat.mul_zero, Nat.zero_add]
  · rw [if_neg (show ¬ mX11_in p.toInt64 0 1 = true by rw [ei]; exact Bool.false_ne_true), if_neg, if_neg]
    · exact ⟨_, _, _, _, _, _, _, _, _, _, _, _, rfl, rfl, hs0, hs1⟩
    · rintro rfl; rcases hp with hp | hp <;> exact absurd hp (by decide)
    · rintro rfl; rcases hp with hp | hp <;> exact absurd hp (by decide)
/-- acts forgotten -/
theorem hisR.nil {row : Nat → Int32} {nt : Nat} {df pf : Nat → Int32} (hnt : nt < 14) (c : List (Nat × Nat) × Nat) : hisR 0 df 0 pf row nt [] c := ⟨[], ⟨rowR.nil (by omega), rowR.nil (by omega)⟩, trivial, hnt, Nat.zero_le _, fun i h q => by simp at q⟩
theorem hisR.nt {ds ps : Int32} {df pf row : Nat → Int32} {nt : Nat} {H : List (List (Nat × Nat) × Nat)} {c : List (Nat × Nat) × Nat} (h : hisR ds df ps pf row nt H c) : nt < 14 := by
  obtain ⟨A, _, _, hr⟩ := h
  exact hr.1
theorem both_again {ds ps : Int32} {df pf row : Nat → Int32} {nt : Nat} {H : List (List (Nat × Nat) × Nat)} (h : edR sz f E) (hd : mdR now 0 E nx) (hE : okE E) (h0 : 1 ≤ nx) (hB : nx ≤ B) (hh : hisR ds df ps pf row nt H (E, nx)) (hs0 : slt (bt ks 0) (ik 0) a0 a1 a2 af kp 0 n B) (hs1 : slt (bt ks 1) (ik 1) c0 c1 c2 cf kp 1 n B) (p : Int32) : ∃ r nx' sz' f' ds' ps' now' E' H', mX10_again ks (nI n) (nI nx) sz f ds ps a0 a1 a2 af c0 c1 c2 cf p = some (r, nI n, nI nx', sz', f', ds', ps') ∧ mX11_again (nI H.length) now ik kp p = some (r, nI H'.length, now') ∧ edR sz' f' E' ∧ mdR now' 0 E' nx' ∧ okE E' ∧ 1 ≤ nx' ∧ nx' ≤ B ∧ hisR ds' df ps' pf row nt H' (E', nx') ∧ ∀ x, x ∈ H' → x ∈ H := by
  rw [mX10_again, mX11_again]
  have same : ∀ q : Int32, ∃ r nx' sz' f' ds' ps' now' E' H', (some (q, nI n, nI nx, sz, f, ds, ps) : Option (Int32 × Int32 × Int32 × Int32 × (Nat → Int32) × Int32 × Int32)) = some (r, nI n, nI nx', sz', f', ds', ps') ∧ (some (q, nI H.length, now) : Option (Int32 × Int32 × (Nat → Int32))) = some (r, nI (H' : List (List (Nat × Nat) × Nat)).length, now') ∧ edR sz' f' E' ∧ mdR now' 0 E' nx' ∧ okE E' ∧ 1 ≤ nx' ∧ nx' ≤ B ∧ hisR ds' df ps' pf row nt H' (E', nx') ∧ ∀ x, x ∈ H' → x ∈ H :=
    fun q => ⟨q, nx, sz, f, ds, ps, now, E, H, rfl, rfl, h, hd, hE, h0, hB, hh, fun x hx => hx⟩
  rcases in_0 p (m := 1) (k := 1) rfl (by omega) with ⟨i, hi, rfl, ei⟩ | ⟨hp, ei⟩
  · rw [if_pos ei]
    rcases (show i = 0 ∨ i = 1 by omega) with rfl | rfl
    · rw [if_pos (show nI 0 = 0 from rfl), isIn_n _ (by omega), gd_n (by omega) (by omega), i_cl (by omega)]
      rcases hs0 with ⟨z1, z2⟩ | ⟨z1, z2, E2, nx2, w1, w2, w3, w4, w5, w6, w7⟩
      · rw [if_neg (by rw [z1]; exact Bool.false_ne_true), if_pos z2]
        exact same _
      · obtain ⟨f', e1, r1⟩ := ed_copy w3 (nI n) a0 (nI nx) a1 (sz2 := sz) (f2 := f)
        obtain ⟨now', e2, d2⟩ := again_l (s := 0) (by omega) w4 now
        rw [if_pos z1, if_neg z2, e1, Option.bind_some, e2, mX3_size, mX6_size, w1, w2]
        exact ⟨_, nx2, _, _, _, _, _, E2, [], rfl, rfl, r1, d2, w5, w6, w7, hisR.nil hh.nt _, fun x hx => absurd hx List.not_mem_nil⟩
    · rw [if_neg (by decide), if_pos (show nI 1 = 1 from rfl), isIn_n _ (by omega), gd_n (by omega) (by omega), i_cl (by omega)]
      rcases hs1 with ⟨z1, z2⟩ | ⟨z1, z2, E2, nx2, w1, w2, w3, w4, w5, w6, w7⟩
      · rw [if_neg (by rw [z1]; exact Bool.false_ne_true), if_pos z2]
        exact same _
      · obtain ⟨f', e1, r1⟩ := ed_copy w3 (nI n) c0 (nI nx) c1 (sz2 := sz) (f2 := f)
        obtain ⟨now', e2, d2⟩ := again_l (s := 1) (by omega) w4 now
        rw [if_pos z1, if_neg z2, e1, Option.bind_some, e2, mX3_size, mX6_size, w1, w2]
        exact ⟨_, nx2, _, _, _, _, _, E2, [], rfl, rfl, r1, d2, w5, w6, w7, hisR.nil hh.nt _, fun x hx => absurd hx List.not_mem_nil⟩
  · rw [if_neg (show ¬ mX11_in p.toInt64 0 1 = true by rw [ei]; exact Bool.false_ne_true), if_neg, if_neg]
    · exact same _
    · rintro rfl; rcases hp with hp | hp <;> exact absurd hp (by decide)
    · rintro rfl; rcases hp with hp | hp <;> exact absurd hp (by decide)
theorem both_graph {tsz ln : Int32} {tf tx : Nat → Int32} {t : List Nat} {ds ps : Int32} {df pf row : Nat → Int32} {nt : Nat} {H : List (List (Nat × Nat) × Nat)} (ht : txC tsz tf t) (hm : txM ln tx t) (hT : okT t) (h : edR sz f E) (hd : mdR now 0 E nx) (hE : okE E) (h1 : 1 ≤ n) (h8 : n ≤ 8) (h0 : 1 ≤ nx) (hB : nx ≤ B) (hB2 : 25 ≤ B) (hh : hisR ds df ps pf row nt H (E, nx)) (hs0 : slt (bt ks 0) (ik 0) a0 a1 a2 af kp 0 n B) (hs1 : slt (bt ks 1) (ik 1) c0 c1 c2 cf kp 1 n B) (rk : Int32) : ∃ r ks' n' nx' sz' f' ds' ps' rk' now' ik' E' H', mX10_graph ks tsz tf (nI n) (nI nx) sz f ds ps = some (r, ks', nI n', nI nx', sz', f', ds', ps') ∧ mX11_graph (nI n) rk ln (nI H.length) now tx ik = some (r, nI n', rk', nI H'.length, now', ik') ∧ edR sz' f' E' ∧ mdR now' 0 E' nx' ∧ okE E' ∧ 1 ≤ n' ∧ n' ≤ 8 ∧ 1 ≤ nx' ∧ nx' ≤ B ∧ hisR ds' df ps' pf row nt H' (E', nx') ∧ (∀ x, x ∈ H' → x ∈ H) ∧ slt (bt ks' 0) (ik' 0) a0 a1 a2 af kp 0 n' B ∧ slt (bt ks' 1) (ik' 1) c0 c1 c2 cf kp 1 n' B := by
  obtain ⟨r, kn, now1, e1, e2, e3, e4⟩ := both_text ht hm hT rk now
  rw [mX10_graph, mX11_graph, e1, Option.bind_some, e2, Option.bind_some]
  dsimp only
  by_cases hr : r = -9
  · obtain ⟨m, K, m1, m8, mt, mk, mlen, mv, md, mE⟩ := e4 hr
    have hK : K ≤ 24 := by have := mE.1; rwa [tE_len] at this
    obtain ⟨f', e5, r5⟩ := read_l ht hT m1 m8 mt mlen mv mE (nI n) (nI nx) sz K 0 kFU 0 f (by omega) (kFU_b (by omega)) (rowR.nil (by omega))
    have en : mX8_figureAt tsz tf 1 = nI m := by
      have e : mX8_figureAt tsz tf 1 = figv (48 + m) := figAt ht hT mt
      have : nI (48 + m) - 48 = nI (48 + m - 48) := nI_subN (b := 48) (by omega)
      rw [e, figv, if_neg (show ¬ nI (48 + m) < (48 : Int32) from fun q => by have := (nI_ltI (b := 48) (by omega) (by omega)).mp q; omega), if_neg (show ¬ (57 : Int32) < nI (48 + m) from fun q => by have := (nI_ltI (a := 57) (by omega) (by omega)).mp q; omega), this, Nat.add_sub_cancel_left]
    have e6 : mX8_readInto tsz tf (nI n) (nI nx) sz f = some (nI m, nI (K + 1), nI K, f') := e5
    obtain ⟨now2, e7, -, q3⟩ := graph_l ik (r, kn, now1) 50 0 kFU now1 rfl (kFU_b (by omega))
    have e7' : mX11_graph_L22 ik (r, kn, now1) kFU 0 now1 = mX11_graph_J49 ik (r, kn, now1) now2 := e7
    have hd2 : mdR now2 0 (tE t K) (K + 1) := (md.toB.copy (g := now2) (c := 0) fun i hi => by rw [Nat.mul_zero, Nat.zero_add, q3 i (Nat.zero_le _) hi, Nat.mul_one]).toR
    have em : mX11_many now2 0 = some (nI (tE t K).length) := md_many hd2
    have u0 : upd (upd ik (Int32.toNatClampNeg 0) (vp_nar .boolean 0)) (Int32.toNatClampNeg 1) (vp_nar .boolean 0) 0 = 0 := by
      have z0 : Int32.toNatClampNeg 0 = 0 := rfl
      have z1 : Int32.toNatClampNeg 1 = 1 := rfl
      rw [z0, z1, upd_n (by omega), upd_s]; exact nar0
    have u1 : upd (upd ik (Int32.toNatClampNeg 0) (vp_nar .boolean 0)) (Int32.toNatClampNeg 1) (vp_nar .boolean 0) 1 = 0 := by
      have z1 : Int32.toNatClampNeg 1 = 1 := rfl
      rw [z1, upd_s]; exact nar0
    rw [if_pos hr, if_pos hr, e6, Option.bind_some, e7', mX11_graph_J49, em, Option.bind_some, tE_len, mk]
    refine ⟨_, _, m, K + 1, _, _, _, _, _, _, _, tE t K, [], rfl, rfl, r5, hd2, mE, m1, m8, by omega, by omega, hisR.nil hh.nt _, fun x hx => absurd hx List.not_mem_nil, Or.inl ⟨b_0 0, u0⟩, Or.inl ⟨b_0 1, u1⟩⟩
  · rw [if_neg hr, if_neg hr]
    exact ⟨_, _, n, nx, _, _, _, _, _, _, _, E, H, rfl, rfl, h, hd.same fun i _ hi => e3 i (by omega), hE, h1, h8, h0, hB, hh, fun x hx => hx, hs0, hs1⟩
end KG
