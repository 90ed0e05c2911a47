/-! one told thing: both sides alike -/
section TH
variable {sz : Int32} {f : Nat → Int32} {T : List (Nat × Nat)} {now : Nat → Int32} {nx n : Nat}
/-- the reference puts an edge in, at level 1 -/
theorem mtry_1 (hd : mdR now 1 T nx) (hT : okE T) {u v : Nat} (hu : u < 8) (hv : v < 8) (kn k0 : Int32) (cv od wy td : Nat → Int32) : ∃ now', mX11_tryThing_J21 kn k0 now cv od wy td 1 (nI u) (nI v) true = some (decide (u ≠ v ∧ 10 * u + v ∉ ePr T ∧ T.length < 24), k0, now', cv, od, wy, td) ∧ (if u ≠ v ∧ 10 * u + v ∉ ePr T ∧ T.length < 24 then mdR now' 1 (T ++ [(nx, 10 * u + v)]) (nx + 1) else mdR now' 1 T nx) ∧ ∀ i, i < 50 → now' i = now i := by
  have hle := hT.1
  rw [mX11_tryThing_J21, if_pos rfl, if_pos rfl]
  have no : ¬ (u ≠ v ∧ 10 * u + v ∉ ePr T ∧ T.length < 24) → ∃ now', mX11_tryThing_J65 k0 now cv od wy td (nI u) (nI v) false = some (decide (u ≠ v ∧ 10 * u + v ∉ ePr T ∧ T.length < 24), k0, now', cv, od, wy, td) ∧ (if u ≠ v ∧ 10 * u + v ∉ ePr T ∧ T.length < 24 then mdR now' 1 (T ++ [(nx, 10 * u + v)]) (nx + 1) else mdR now' 1 T nx) ∧ ∀ i, i < 50 → now' i = now i := by
    intro hc
    refine ⟨now, ?_, by rw [if_neg hc]; exact hd, fun _ _ => rfl⟩
    rw [mX11_tryThing_J65, if_neg Bool.false_ne_true, decide_eq_false hc]
  by_cases huv : u = v
  · rw [if_pos (by rw [huv])]; exact no fun q => q.1 huv
  · rw [if_neg (fun q => huv ((nI_eq (by omega) (by omega)).mp q))]
    have ef : mX11_find now 1 (nI u) (nI v) = some (plcP (ePr T) (10 * u + v)) := md_find hd hT (by omega) (by omega)
    have em : mX11_many now 1 = some (nI T.length) := md_many hd
    rw [ef, Option.bind_some]
    by_cases hp : 10 * u + v ∈ ePr T
    · have h9 : ¬ plcP (ePr T) (10 * u + v) = -9 := by
        have := idx_lt hp
        rw [plcP, if_pos hp, i_ne9 (by omega)]; exact id
      rw [if_neg h9]; exact no fun q => q.2.1 hp
    · rw [if_pos (show plcP (ePr T) (10 * u + v) = -9 from if_neg hp), em, Option.bind_some]
      by_cases hl : 24 ≤ T.length
      · rw [if_pos (show (24 : Int32) ≤ nI T.length from (nI_leI (a := 24) (by omega) (by omega)).mpr hl)]
        exact no fun q => by omega
      · rw [if_neg (show ¬ (24 : Int32) ≤ nI T.length from fun q => hl ((nI_leI (a := 24) (by omega) (by omega)).mp q)), mX11_tryThing_J65, if_pos rfl]
        have hc : u ≠ v ∧ 10 * u + v ∉ ePr T ∧ T.length < 24 := ⟨huv, hp, by omega⟩
        obtain ⟨now2, e7, hd2, hs2⟩ := md_insert hd (by omega) u v
        have e7' : mX11_insertOn now 1 (nI u) (nI v) = some now2 := e7
        rw [e7', Option.bind_some]
        exact ⟨now2, by rw [decide_eq_true hc], by rw [if_pos hc]; exact hd2, fun i q => hs2 i (Or.inl (by omega))⟩
theorem mtry_2 (hd : mdR now 1 T nx) (hT : okE T) {u v : Nat} (hu : u < 8) (hv : v < 8) (kn k0 : Int32) (cv od wy td : Nat → Int32) : ∃ now', mX11_tryThing_J21 kn k0 now cv od wy td 2 (nI u) (nI v) true = some (decide (10 * u + v ∈ ePr T), k0, now', cv, od, wy, td) ∧ (if 10 * u + v ∈ ePr T then mdR now' 1 (delE T (10 * u + v)) nx else mdR now' 1 T nx) ∧ ∀ i, i < 50 → now' i = now i := by
  have hle := hT.1
  have ef : mX11_find now 1 (nI u) (nI v) = some (plcP (ePr T) (10 * u + v)) := md_find hd hT (by omega) (by omega)
  rw [mX11_tryThing_J21, if_neg (by decide), if_pos rfl, if_pos rfl, ef, Option.bind_some]
  by_cases hp : 10 * u + v ∈ ePr T
  · have hi := idx_lt hp
    have e9 : plcP (ePr T) (10 * u + v) = nI ((ePr T).idxOf (10 * u + v)) := if_pos hp
    have h9 : ¬ plcP (ePr T) (10 * u + v) = -9 := by rw [e9, i_ne9 (by omega)]; exact id
    obtain ⟨now2, e7, hd2, hs2⟩ := md_delete hd hi
    have e7' : mX11_deleteOn now 1 (nI ((ePr T).idxOf (10 * u + v))) = some now2 := e7
    rw [if_neg h9, mX11_tryThing_J109, if_pos rfl, ef, Option.bind_some, e9, e7', Option.bind_some]
    exact ⟨now2, by rw [decide_eq_true hp], by rw [if_pos hp]; exact hd2, fun i q => hs2 i (Or.inl (by omega))⟩
  · rw [if_pos (show plcP (ePr T) (10 * u + v) = -9 from if_neg hp), mX11_tryThing_J109, if_neg Bool.false_ne_true]
    exact ⟨now, by rw [decide_eq_false hp], by rw [if_neg hp]; exact hd, fun _ _ => rfl⟩
theorem mtry_no (hd : mdR now 1 T nx) (hT : okE T) {u v : Nat} (kn k0 : Int32) (cv od wy td : Nat → Int32) (p2 p3 : Int32) : mX11_tryThing_J21 kn k0 now cv od wy td 1 p2 p3 false = some (false, k0, now, cv, od, wy, td) ∧ mX11_tryThing_J21 kn k0 now cv od wy td 2 p2 p3 false = some (false, k0, now, cv, od, wy, td) := by
  constructor
  · rw [mX11_tryThing_J21, if_pos rfl, if_neg Bool.false_ne_true, mX11_tryThing_J65, if_neg Bool.false_ne_true]
  · rw [mX11_tryThing_J21, if_neg (by decide), if_pos rfl, if_neg Bool.false_ne_true, mX11_tryThing_J109, if_neg Bool.false_ne_true]
theorem both_thing (h : edR sz f T) (hd : mdR now 1 T nx) (hT : okE T) (hnx : nx < 1000000) (h1 : 1 ≤ n) (h8 : n ≤ 8) (t1 t2 t3 wg : Int64) (t4 ms ps k0 : Int32) (mf pf cv od wy td : Nat → Int32) {d1 d2 d3 : Nat} (hd1 : d1 < 10) (hd2 : d2 < 10) (hd3 : d3 < 10) : ∃ (r : Bool) (nx' : Nat) (sz' : Int32) (f' : Nat → Int32) (g' a' b' : Int64) (c' : Int32) (wg' : Int64) (ms' : Int32) (mf' : Nat → Int32) (ps' : Int32) (pf' : Nat → Int32) (k0' : Int32) (now' cv' od' wy' td' : Nat → Int32) (T' : List (Nat × Nat)), mX10_isDoneOrSo (nI n) (nI nx) sz f t1 t2 t3 t4 wg ms mf ps pf (nI d1) (nI d2) (nI d3) = some (r, nI nx', sz', f', g', a', b', c', wg', ms', mf', ps', pf') ∧ mX11_tryThing (nI n) k0 now cv od wy td (nI d1) (nI d2) (nI d3) = some (r, k0', now', cv', od', wy', td') ∧ edR sz' f' T' ∧ mdR now' 1 T' nx' ∧ okE T' ∧ nx' ≤ nx + 1 ∧ ∀ i, i < 50 → now' i = now i := by
  obtain ⟨g, eg, bg⟩ := ed_grid h hT
  obtain ⟨cvd, cvr, rch, el, hc⟩ := learn_n t1 t2 t3 t4 g
  obtain ⟨mrch, cov, em, hm⟩ := findCovers_n hd hT k0 cv
  have hb : bcR g cvd cvr rch cov mrch (pE (ePr T)) := ⟨hc, gE_pE hT bg, hm⟩
  have hsame := hb.same
  subst hsame
  have em' : mX11_findCovers k0 now cv 1 = some (rch, cov) := em
  obtain ⟨od', wy', td', ew, hod⟩ := mwalk_all hd hT od wy td
  have ew' : mX11_walk now od wy td 1 = some (od', wy', td') := ew
  obtain ⟨g2, ms2, mf2, ps2, pf2, met, e5, e6, e7, hrow, hok⟩ := go_n h hT wg ms ps mf pf
  have hg2 : g2 = g := by rw [eg] at e6; exact (Option.some.inj e6).symm
  subst hg2
  rw [← e7] at hod
  have hcount : mX2_reachedCount rch = nI (ct rch) := by rw [mX2_reachedCount, bitCount_n hc.1]
  have hlen := h.len
  rw [mX10_isDoneOrSo, eg, Option.bind_some, el, Option.bind_some, mX11_tryThing]
  dsimp only
  have hgR := gE_pE hT bg
  by_cases c5 : d1 = 5
  · subst c5
    have hj : ∀ s, mX11_tryThing_J21 (nI n) k0 now cv od wy td (nI 5) (nI d2) (nI d3) s = if mX11_isKnot (nI n) (nI d2) = true then (mX11_depthOf rch cov (nI d2)).bind fun r234 => if r234 = nI d3 then some (true, rch, now, cov, od', wy', td') else some (false, rch, now, cov, od', wy', td') else some (false, rch, now, cov, od', wy', td') := by
      intro s
      rw [mX11_tryThing_J21, if_neg (by decide), if_neg (by decide), em', Option.bind_some, ew', Option.bind_some, if_neg (by decide), if_neg (by decide), if_pos (show nI 5 = 5 from rfl)]
    rw [if_neg (by decide), if_pos (show nI 5 = 5 from rfl), hj, hj, show (if mX11_isKnot (nI n) (nI d3) = true then (if mX11_isKnot (nI n) (nI d2) = true then (mX11_depthOf rch cov (nI d2)).bind fun r234 => if r234 = nI d3 then some (true, rch, now, cov, od', wy', td') else some (false, rch, now, cov, od', wy', td') else some (false, rch, now, cov, od', wy', td')) else (if mX11_isKnot (nI n) (nI d2) = true then (mX11_depthOf rch cov (nI d2)).bind fun r234 => if r234 = nI d3 then some (true, rch, now, cov, od', wy', td') else some (false, rch, now, cov, od', wy', td') else some (false, rch, now, cov, od', wy', td'))) = (if mX11_isKnot (nI n) (nI d2) = true then (mX11_depthOf rch cov (nI d2)).bind fun r234 => if r234 = nI d3 then some (true, rch, now, cov, od', wy', td') else some (false, rch, now, cov, od', wy', td') else some (false, rch, now, cov, od', wy', td')) from ite_self _]
    rcases knot_n h1 h8 (nI d2) with ⟨u, hu, eu, q1, q2⟩ | ⟨q1, q2⟩
    · have : d2 = u := (nI_eq (by omega) (by omega)).mp eu
      subst this
      rw [if_pos q1, if_pos q2, if_pos q2, hb.depth (show d2 < 8 by omega), Option.bind_some]
      by_cases hx : mX2_depthOf cvr rch (nI d2) = nI d3
      · rw [if_pos hx, if_pos hx]
        exact ⟨_, nx, _, _, _, _, _, _, _, _, _, _, _, _, _, _, _, _, _, T, rfl, rfl, h, hd, hT, by omega, fun _ _ => rfl⟩
      · rw [if_neg hx, if_neg hx]
        exact ⟨_, nx, _, _, _, _, _, _, _, _, _, _, _, _, _, _, _, _, _, T, rfl, rfl, h, hd, hT, by omega, fun _ _ => rfl⟩
    · rw [q1, q2, if_f, if_f, if_f]
      exact ⟨_, nx, _, _, _, _, _, _, _, _, _, _, _, _, _, _, _, _, _, T, rfl, rfl, h, hd, hT, by omega, fun _ _ => rfl⟩
  by_cases c8' : d1 = 8
  · subst c8'
    have hj : ∀ s, mX11_tryThing_J21 (nI n) k0 now cv od wy td (nI 8) (nI d2) (nI d3) s = if nI d2 = 0 then (if nI (ct rch) < nI d3 then some (false, rch, now, cov, od', wy', td') else some (true, rch, now, cov, od', wy', td')) else some (false, rch, now, cov, od', wy', td') := by
      intro s
      rw [mX11_tryThing_J21, if_neg (by decide), if_neg (by decide), em', Option.bind_some, ew', Option.bind_some, if_neg (by decide), if_neg (by decide), if_neg (by decide), if_neg (by decide), if_neg (by decide), if_pos (show nI 8 = 8 from rfl)]
      dsimp only
      rw [ones_n, Option.bind_some]
    rw [if_pos (show nI 8 = 8 from rfl), hj, hj, ite_self, ite_self, hcount]
    by_cases z : nI d2 = 0
    · rw [if_pos z, if_pos z]
      by_cases hx : nI (ct rch) < nI d3
      · rw [if_pos hx, if_pos hx]
        exact ⟨_, nx, _, _, _, _, _, _, _, _, _, _, _, _, _, _, _, _, _, T, rfl, rfl, h, hd, hT, by omega, fun _ _ => rfl⟩
      · rw [if_neg hx, if_neg hx]
        exact ⟨_, nx, _, _, _, _, _, _, _, _, _, _, _, _, _, _, _, _, _, T, rfl, rfl, h, hd, hT, by omega, fun _ _ => rfl⟩
    · rw [if_neg z, if_neg z]
      exact ⟨_, nx, _, _, _, _, _, _, _, _, _, _, _, _, _, _, _, _, _, T, rfl, rfl, h, hd, hT, by omega, fun _ _ => rfl⟩
  have dd : d1 = 0 ∨ d1 = 1 ∨ d1 = 2 ∨ d1 = 3 ∨ d1 = 4 ∨ d1 = 6 ∨ d1 = 7 ∨ d1 = 9 := by omega
  rcases knots_n h1 h8 (nI d2) (nI d3) with ⟨u, v, hu, hv, eu, ev, q0, q1, q2⟩ | ⟨q0, q⟩
  · have : d2 = u := (nI_eq (by omega) (by omega)).mp eu
    subst this
    have : d3 = v := (nI_eq (by omega) (by omega)).mp ev
    subst this
    have hu8 : d2 < 8 := by omega
    have hv8 : d3 < 8 := by omega
    rw [q0, if_pos q1, if_pos q2]
    rcases dd with rfl | rfl | rfl | rfl | rfl | rfl | rfl | rfl
    · rw [if_neg (by decide), if_neg (by decide), if_pos rfl, if_neg (by decide), if_neg (by decide), if_neg (by decide), if_neg (by decide), if_neg (by decide), if_neg (by decide), mX11_tryThing_J21, if_neg (by decide), if_neg (by decide), em', Option.bind_some, ew', Option.bind_some, if_neg (by decide), if_neg (by decide), if_neg (by decide), if_neg (by decide), if_neg (by decide), if_neg (by decide)]
      exact ⟨_, nx, _, _, _, _, _, _, _, _, _, _, _, _, _, _, _, _, _, T, rfl, rfl, h, hd, hT, by omega, fun _ _ => rfl⟩
    · rw [if_neg (by decide), if_neg (by decide), if_pos rfl, if_pos (show nI 1 = 1 from rfl)]
      obtain ⟨now', e8, hd', hs'⟩ := mtry_1 hd hT hu8 hv8 (nI n) k0 cv od wy td
      obtain ⟨f', e9, hr'⟩ := ed_insIf h hT (s := nx) hu8 hv8
      have e8' : mX11_tryThing_J21 (nI n) k0 now cv od wy td (nI 1) (nI d2) (nI d3) true = _ := e8
      rw [e9, Option.bind_some, e8']
      by_cases hcc : d2 ≠ d3 ∧ 10 * d2 + d3 ∉ ePr T ∧ T.length < 24
      · rw [if_pos hcc] at hd' hr'
        rw [if_pos hcc, decide_eq_true hcc]
        exact ⟨_, nx + 1, _, _, _, _, _, _, _, _, _, _, _, _, _, _, _, _, _, _, rfl, rfl, hr', hd', hT.app hcc.2.2 hnx hu8 hv8 hcc.1 hcc.2.1, by omega, hs'⟩
      · rw [if_neg hcc] at hd' hr'
        rw [if_neg hcc, decide_eq_false hcc]
        exact ⟨_, nx, _, _, _, _, _, _, _, _, _, _, _, _, _, _, _, _, _, T, rfl, rfl, hr', hd', hT, by omega, hs'⟩
    · rw [if_neg (by decide), if_neg (by decide), if_pos rfl, if_neg (by decide), if_pos (show nI 2 = 2 from rfl)]
      obtain ⟨now', e8, hd', hs'⟩ := mtry_2 hd hT hu8 hv8 (nI n) k0 cv od wy td
      obtain ⟨f', e9, hr'⟩ := ed_delIf h hT hu8 hv8
      have e8' : mX11_tryThing_J21 (nI n) k0 now cv od wy td (nI 2) (nI d2) (nI d3) true = _ := e8
      rw [e9, Option.bind_some, e8']
      by_cases hp : 10 * d2 + d3 ∈ ePr T
      · rw [if_pos hp] at hd' hr'
        rw [if_pos hp, decide_eq_true hp]
        exact ⟨_, nx, _, _, _, _, _, _, _, _, _, _, _, _, _, _, _, _, _, _, rfl, rfl, by rw [← del_len hp] at hr' ⊢; exact hr', hd', hT.del _, by omega, hs'⟩
      · rw [if_neg hp] at hd' hr'
        rw [if_neg hp, decide_eq_false hp]
        exact ⟨_, nx, _, _, _, _, _, _, _, _, _, _, _, _, _, _, _, _, _, T, rfl, rfl, hr', hd', hT, by omega, hs'⟩
    · rw [if_neg (by decide), if_neg (by decide), if_pos rfl, if_neg (by decide), if_neg (by decide), if_pos (show nI 3 = 3 from rfl), mX11_tryThing_J21, if_neg (by decide), if_neg (by decide), em', Option.bind_some, ew', Option.bind_some, if_pos (show nI 3 = 3 from rfl), if_pos rfl, gd_n hv8 (by omega), i_cl (a := d3) (by omega)]
      dsimp only
      have e : mX5_isIn (mX2_coveredBy cvd (nI d2)) (nI d3) = bt (cov d3) d2 := by
        rw [isIn_n _ hv8, mX2_coveredBy, Bool.eq_iff_iff, hc.cvs hu8, (hm.2.2 d3 hv8).2, hgR]
      rw [e, has_n _ (by omega)]
      by_cases hx : bt (cov d3) d2 = true
      · rw [hx, if_pos rfl]
        exact ⟨_, nx, _, _, _, _, _, _, _, _, _, _, _, _, _, _, _, _, _, T, rfl, rfl, h, hd, hT, by omega, fun _ _ => rfl⟩
      · rw [if_neg hx, Bool.eq_false_iff.mpr hx]
        exact ⟨_, nx, _, _, _, _, _, _, _, _, _, _, _, _, _, _, _, _, _, T, rfl, rfl, h, hd, hT, by omega, fun _ _ => rfl⟩
    · obtain ⟨r, r1, r2, -⟩ := hb.lid hv8
      rw [if_neg (by decide), if_neg (by decide), if_pos rfl, if_neg (by decide), if_neg (by decide), if_neg (by decide), if_pos (show nI 4 = 4 from rfl), mX11_tryThing_J21, if_neg (by decide), if_neg (by decide), em', Option.bind_some, ew', Option.bind_some, if_neg (by decide), if_pos (show nI 4 = 4 from rfl), if_pos rfl, r1, Option.bind_some]
      dsimp only
      rw [r2, Option.bind_some]
      by_cases hx : r = nI d2
      · rw [if_pos hx, if_pos hx]
        exact ⟨_, nx, _, _, _, _, _, _, _, _, _, _, _, _, _, _, _, _, _, T, rfl, rfl, h, hd, hT, by omega, fun _ _ => rfl⟩
      · rw [if_neg hx, if_neg hx]
        exact ⟨_, nx, _, _, _, _, _, _, _, _, _, _, _, _, _, _, _, _, _, T, rfl, rfl, h, hd, hT, by omega, fun _ _ => rfl⟩
    · obtain ⟨r, r1, r2⟩ := both_half (L := 1) hd hT hgR hrow hok hod hv8
      have r2' : mX11_halfOf now od' 1 (nI d3) = some r := r2
      rw [if_neg (by decide), if_neg (by decide), if_pos rfl, if_neg (by decide), if_neg (by decide), if_neg (by decide), if_neg (by decide), if_pos (show nI 6 = 6 from rfl), mX11_tryThing_J21, if_neg (by decide), if_neg (by decide), em', Option.bind_some, ew', Option.bind_some, if_neg (by decide), if_neg (by decide), if_neg (by decide), if_pos (show nI 6 = 6 from rfl), if_pos rfl, e5, Option.bind_some]
      dsimp only
      rw [r1, r2', Option.bind_some, Option.bind_some]
      by_cases hx : r = nI d2
      · rw [if_pos hx, if_pos hx]
        exact ⟨_, nx, _, _, _, _, _, _, _, _, _, _, _, _, _, _, _, _, _, T, rfl, rfl, h, hd, hT, by omega, fun _ _ => rfl⟩
      · rw [if_neg hx, if_neg hx]
        exact ⟨_, nx, _, _, _, _, _, _, _, _, _, _, _, _, _, _, _, _, _, T, rfl, rfl, h, hd, hT, by omega, fun _ _ => rfl⟩
    · obtain ⟨s, r1, r2, rs, rz⟩ := hb.rim hd hT hu8
      have r2' : mX11_rimOf now cov 1 (nI d2) = some s := r2
      rw [if_neg (by decide), if_neg (by decide), if_pos rfl, if_neg (by decide), if_neg (by decide), if_neg (by decide), if_neg (by decide), if_neg (by decide), if_pos (show nI 7 = 7 from rfl), mX11_tryThing_J21, if_neg (by decide), if_neg (by decide), em', Option.bind_some, ew', Option.bind_some, if_neg (by decide), if_neg (by decide), if_neg (by decide), if_neg (by decide), if_pos (show nI 7 = 7 from rfl), if_pos rfl, r1, Option.bind_some]
      dsimp only
      rw [has_n _ (by omega), isIn_n _ hv8]
      by_cases hr : bt rch d2 = true
      · rw [if_pos hr, r2', Option.bind_some, has_n _ (by omega)]
        by_cases hx : bt s d3 = true
        · rw [hx, if_pos rfl]
          exact ⟨_, nx, _, _, _, _, _, _, _, _, _, _, _, _, _, _, _, _, _, T, rfl, rfl, h, hd, hT, by omega, fun _ _ => rfl⟩
        · rw [if_neg hx, Bool.eq_false_iff.mpr hx]
          exact ⟨_, nx, _, _, _, _, _, _, _, _, _, _, _, _, _, _, _, _, _, T, rfl, rfl, h, hd, hT, by omega, fun _ _ => rfl⟩
      · rw [if_neg hr, rz hr, b_0]
        exact ⟨_, nx, _, _, _, _, _, _, _, _, _, _, _, _, _, _, _, _, _, T, rfl, rfl, h, hd, hT, by omega, fun _ _ => rfl⟩
    · rw [if_neg (by decide), if_neg (by decide), if_pos rfl, if_neg (by decide), if_neg (by decide), if_neg (by decide), if_neg (by decide), if_neg (by decide), if_neg (by decide), mX11_tryThing_J21, if_neg (by decide), if_neg (by decide), em', Option.bind_some, ew', Option.bind_some, if_neg (by decide), if_neg (by decide), if_neg (by decide), if_neg (by decide), if_neg (by decide), if_neg (by decide)]
      exact ⟨_, nx, _, _, _, _, _, _, _, _, _, _, _, _, _, _, _, _, _, T, rfl, rfl, h, hd, hT, by omega, fun _ _ => rfl⟩
  · rw [q0, if_f, ifk q]
    obtain ⟨n1, n2⟩ := mtry_no hd hT (u := 0) (v := 0) (nI n) k0 cv od wy td (nI d2) (nI d3)
    rcases dd with rfl | rfl | rfl | rfl | rfl | rfl | rfl | rfl
    · rw [if_neg (by decide), if_neg (by decide), mX11_tryThing_J21, if_neg (by decide), if_neg (by decide), em', Option.bind_some, ew', Option.bind_some, if_neg (by decide), if_neg (by decide), if_neg (by decide), if_neg (by decide), if_neg (by decide), if_neg (by decide)]
      exact ⟨_, nx, _, _, _, _, _, _, _, _, _, _, _, _, _, _, _, _, _, T, rfl, rfl, h, hd, hT, by omega, fun _ _ => rfl⟩
    · rw [if_neg (by decide), if_neg (by decide), show nI 1 = 1 from rfl, n1]
      exact ⟨_, nx, _, _, _, _, _, _, _, _, _, _, _, _, _, _, _, _, _, T, rfl, rfl, h, hd, hT, by omega, fun _ _ => rfl⟩
    · rw [if_neg (by decide), if_neg (by decide), show nI 2 = 2 from rfl, n2]
      exact ⟨_, nx, _, _, _, _, _, _, _, _, _, _, _, _, _, _, _, _, _, T, rfl, rfl, h, hd, hT, by omega, fun _ _ => rfl⟩
    · rw [if_neg (by decide), if_neg (by decide), mX11_tryThing_J21, if_neg (by decide), if_neg (by decide), em', Option.bind_some, ew', Option.bind_some, if_pos (show nI 3 = 3 from rfl), if_f]
      exact ⟨_, nx, _, _, _, _, _, _, _, _, _, _, _, _, _, _, _, _, _, T, rfl, rfl, h, hd, hT, by omega, fun _ _ => rfl⟩
    · rw [if_neg (by decide), if_neg (by decide), mX11_tryThing_J21, if_neg (by decide), if_neg (by decide), em', Option.bind_some, ew', Option.bind_some, if_neg (by decide), if_pos (show nI 4 = 4 from rfl), if_f]
      exact ⟨_, nx, _, _, _, _, _, _, _, _, _, _, _, _, _, _, _, _, _, T, rfl, rfl, h, hd, hT, by omega, fun _ _ => rfl⟩
    · rw [if_neg (by decide), if_neg (by decide), mX11_tryThing_J21, if_neg (by decide), if_neg (by decide), em', Option.bind_some, ew', Option.bind_some, if_neg (by decide), if_neg (by decide), if_neg (by decide), if_pos (show nI 6 = 6 from rfl), if_f]
      exact ⟨_, nx, _, _, _, _, _, _, _, _, _, _, _, _, _, _, _, _, _, T, rfl, rfl, h, hd, hT, by omega, fun _ _ => rfl⟩
    · rw [if_neg (by decide), if_neg (by decide), mX11_tryThing_J21, if_neg (by decide), if_neg (by decide), em', Option.bind_some, ew', Option.bind_some, if_neg (by decide), if_neg (by decide), if_neg (by decide), if_neg (by decide), if_pos (show nI 7 = 7 from rfl), if_f]
      exact ⟨_, nx, _, _, _, _, _, _, _, _, _, _, _, _, _, _, _, _, _, T, rfl, rfl, h, hd, hT, by omega, fun _ _ => rfl⟩
    · rw [if_neg (by decide), if_neg (by decide), mX11_tryThing_J21, if_neg (by decide), if_neg (by decide), em', Option.bind_some, ew', Option.bind_some, if_neg (by decide), if_neg (by decide), if_neg (by decide), if_neg (by decide), if_neg (by decide), if_neg (by decide)]
      exact ⟨_, nx, _, _, _, _, _, _, _, _, _, _, _, _, _, _, _, _, _, T, rfl, rfl, h, hd, hT, by omega, fun _ _ => rfl⟩
end TH
