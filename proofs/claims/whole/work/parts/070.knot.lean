/-! knot: both sides alike -/
section KN
variable {sz : Int32} {f : Nat → Int32} {E : List (Nat × Nat)} {now : Nat → Int32} {nx n : Nat}
theorem both_knot (h : edR sz f E) (hd : mdR now 0 E nx) (hE : okE E) (h1 : 1 ≤ n) (h8 : n ≤ 8) (k1 k2 k3 wg : Int64) (k4 ms ps k0 : Int32) (mf pf cv0 od wy td : Nat → Int32) (p1 p2 : Int32) : ∃ r g cvd cvr rch wg' ms' mf' ps' pf' rch' cov' od' wy' td', mX10_knot (nI n) sz f k1 k2 k3 k4 wg ms mf ps pf p1 p2 = some (r, g, cvd, cvr, rch, wg', ms', mf', ps', pf') ∧ mX11_knot (nI n) k0 now cv0 od wy td p1 p2 = some (r, rch', cov', od', wy', td') := by
  rw [mX10_knot, mX11_knot]
  rcases knot_n h1 h8 p1 with ⟨v, hv, rfl, q1, q2⟩ | ⟨q1, q2⟩
  · have hv8 : v < 8 := by omega
    obtain ⟨g, cvd, cvr, rch, cov, e1, e2, e3, hb⟩ := both_learn (L := 0) h hd hE k1 k2 k3 k4 k0 cv0
    have e3' : mX11_findCovers k0 now cv0 0 = some (rch, cov) := e3
    obtain ⟨od', wy', td', e4, hod⟩ := mwalk_all hd hE od wy td
    have e4' : mX11_walk now od wy td 0 = some (od', wy', td') := e4
    obtain ⟨g2, ms2, mf2, ps2, pf2, met, e5, e6, e7, hrow, hok⟩ := go_n h hE wg ms ps mf pf
    have hg2 : g2 = g := by rw [e2] at e6; exact (Option.some.inj e6).symm
    subst hg2
    rw [← e7] at hod
    rw [if_pos q1, if_pos q2, e1, Option.bind_some, e3', Option.bind_some, e4', Option.bind_some]
    dsimp only
    by_cases z0 : p2 = 0
    · rw [if_pos z0, if_pos z0, mX2_isReached, isIn_n _ hv8, has_n _ (by omega)]
      by_cases hr : bt rch v = true
      · rw [if_pos hr, if_pos hr]; exact ⟨_, _, _, _, _, _, _, _, _, _, _, _, _, _, _, rfl, rfl⟩
      · rw [if_neg hr, if_neg hr]; exact ⟨_, _, _, _, _, _, _, _, _, _, _, _, _, _, _, rfl, rfl⟩
    rw [if_neg z0, if_neg z0]
    by_cases z1 : p2 = 1
    · obtain ⟨r, r1, r2, -⟩ := hb.lid hv8
      rw [if_pos z1, if_pos z1, r1, r2, Option.bind_some, Option.bind_some]
      exact ⟨_, _, _, _, _, _, _, _, _, _, _, _, _, _, _, rfl, rfl⟩
    rw [if_neg z1, if_neg z1]
    by_cases z2 : p2 = 2
    · rw [if_pos z2, if_pos z2, hb.depth hv8, Option.bind_some]
      exact ⟨_, _, _, _, _, _, _, _, _, _, _, _, _, _, _, rfl, rfl⟩
    rw [if_neg z2, if_neg z2]
    by_cases z3 : p2 = 3
    · rw [if_pos z3, if_pos z3, e5, Option.bind_some, gd_n hv8 (by omega), i_cl (a := v) (by omega), hod v hv8]
      dsimp only
      rw [order_n hrow hok.2.1 (by omega), Option.bind_some]
      exact ⟨_, _, _, _, _, _, _, _, _, _, _, _, _, _, _, rfl, rfl⟩
    rw [if_neg z3, if_neg z3]
    by_cases z4 : p2 = 4
    · obtain ⟨r, r1, r2⟩ := both_half (L := 0) hd hE hb.2.1 hrow hok hod hv8
      have r2' : mX11_halfOf now od' 0 (nI v) = some r := r2
      rw [if_pos z4, if_pos z4, e5, Option.bind_some]
      dsimp only
      rw [r1, r2', Option.bind_some, Option.bind_some]
      exact ⟨_, _, _, _, _, _, _, _, _, _, _, _, _, _, _, rfl, rfl⟩
    rw [if_neg z4, if_neg z4]
    by_cases z5 : p2 = 5
    · rw [if_pos z5, if_pos z5, hb.cvs hv8, Option.bind_some]
      exact ⟨_, _, _, _, _, _, _, _, _, _, _, _, _, _, _, rfl, rfl⟩
    rw [if_neg z5, if_neg z5]
    by_cases z6 : p2 = 6
    · obtain ⟨s, r1, r2, -⟩ := hb.rim hd hE hv8
      have r2' : mX11_rimOf now cov 0 (nI v) = some s := r2
      rw [if_pos z6, if_pos z6, r1, r2', Option.bind_some, Option.bind_some]
      exact ⟨_, _, _, _, _, _, _, _, _, _, _, _, _, _, _, rfl, rfl⟩
    rw [if_neg z6, if_neg z6]
    exact ⟨_, _, _, _, _, _, _, _, _, _, _, _, _, _, _, rfl, rfl⟩
  · rw [if_neg (by rw [q1]; decide), if_neg (by rw [q2]; decide)]
    exact ⟨_, _, _, _, _, _, _, _, _, _, _, _, _, _, _, rfl, rfl⟩
end KN
