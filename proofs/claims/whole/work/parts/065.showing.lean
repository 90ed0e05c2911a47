/-! showing: both sides alike -/
theorem sub_len : ∀ (a b : List Nat), a.Nodup → (∀ x, x ∈ a → x ∈ b) → a.length ≤ b.length := by
  intro a
  induction a with
  | nil => intro b _ _; exact Nat.zero_le _
  | cons x a ih =>
    intro b hn hs
    have hx := hs x List.mem_cons_self
    have h1 := List.nodup_cons.mp hn
    have := ih (b.erase x) h1.2 (fun z hz => (List.mem_erase_of_ne (fun e => by subst e; exact h1.1 hz)).mpr (hs z (List.mem_cons_of_mem _ hz)))
    rw [List.length_erase_of_mem hx] at this
    have hpos : 0 < b.length := List.length_pos_of_mem hx
    rw [List.length_cons]; omega
section SHB
variable {sz : Int32} {f : Nat → Int32} {E : List (Nat × Nat)} {now : Nat → Int32} {nx : Nat}
theorem both_showing (h : edR sz f E) (hd : mdR now 0 E nx) (hE : okE E) (k1 k2 k3 : Int64) (k4 ls ds k0 : Int32) (lf df cv0 sh : Nat → Int32) (p : Int32) : ∃ r g cvd cvr rch ls' lf' ds' df' cov sh', mX10_showing sz f k1 k2 k3 k4 ls lf ds df p = some (r, g, cvd, cvr, rch, ls', lf', ds', df') ∧ mX11_showing k0 now cv0 sh p = some (r, rch, cov, sh') := by
  obtain ⟨g, cvd, cvr, rch, cov, e1, e2, e3, hb⟩ := both_learn (L := 0) h hd hE k1 k2 k3 k4 k0 cv0
  have e3' : mX11_findCovers k0 now cv0 0 = some (rch, cov) := e3
  obtain ⟨hcv, hg, hmc⟩ := hb
  have hR : ∀ d, RA (pE (ePr E)) d → d < 8 := fun d hd => by rw [← hg] at hd; exact RA8 hd
  obtain ⟨T, sh1, eT, hs1, hA, hT, hTl⟩ := mfill_n (now := now) (r2 := (rch, cov)) hmc p sh
  have hTn := nodup_of_asc hA
  have hT8 := nodup8 hTn fun x hx => hR x ((hT x).mp hx)
  have h0T : (0 : Nat) ∈ T := (hT 0).mpr RA.root
  have hT1 : 1 ≤ T.length := List.length_pos_of_mem h0T
  have hcount : mX2_reachedCount rch = nI T.length := by
    rw [mX2_reachedCount, bitCount_n hcv.1, hTl]
  rw [mX10_showing, e1, Option.bind_some, mX11_showing, e3', Option.bind_some, eT, mX11_showing_J89]
  dsimp only
  rw [hcount]
  rcases knot_n hT1 hT8 p with ⟨k, hk, rfl, -, hk2⟩ | ⟨hk1, hk2⟩
  · rw [show mX11_in ((nI k).toInt64) 0 ((nI T.length - 1).toInt64) = true from hk2, if_pos rfl, if_neg (by rw [i_lt0 (by omega)]; exact id), if_pos ((nI_ltI (by omega) (by omega)).mpr hk)]
    obtain ⟨rs', rf', ds', df', Tm, ef, hrow, hleast⟩ := find_n hcv ls ds lf df
    rw [hg] at hleast
    have hlen : Tm.length = T.length := Nat.le_antisymm (sub_len Tm T hleast.1.2.1 fun x hx => (hT x).mpr ((hleast.1.1 x).mp hx)) (sub_len T Tm hTn fun x hx => (hleast.1.1 x).mpr ((hT x).mp hx))
    have hhead : ∃ t, T = 0 :: t := by
      cases T with
      | nil => exact absurd h0T List.not_mem_nil
      | cons a t =>
        rcases List.mem_cons.mp h0T with q | q
        · exact ⟨t, by rw [← q]⟩
        · have := (List.pairwise_cons.mp hA).1 0 q; omega
    have hpow : 8 ^ T.length ≤ 8 ^ 8 := Nat.pow_le_pow_right (by decide) hT8
    obtain ⟨sh2, e4, hs2⟩ := mshow_loop (r2 := (rch, cov)) hd hE hmc hR hleast (nI k) kFU T sh1 hs1 hT hTn hhead (asc_least T Tm hA hleast.1.2.1 fun z => (hleast.1.1 z).trans (hT z).symm) (by
      have : (8 : Nat) ^ 8 < kFU := kFU_b (by decide)
      omega)
    have hkm : k < Tm.length := by omega
    obtain ⟨x, hx⟩ : ∃ x, Tm[k]? = some x := ⟨_, List.getElem?_eq_getElem hkm⟩
    rw [ef, Option.bind_some, e4, mX11_showing_J130, if_pos rfl, gd_n (by omega) (by omega), i_cl (a := k) (by omega), hs2 k x hx]
    dsimp only
    rw [mX7_knotAt, at_n hrow (by omega), List.getD_eq_getElem?_getD, List.getElem?_map, hx]
    exact ⟨nI x, g, cvd, cvr, rch, rs', rf', ds', df', cov, sh2, rfl, rfl⟩
  · rw [show mX11_in (p.toInt64) 0 ((nI T.length - 1).toInt64) = false from hk2, if_neg Bool.false_ne_true]
    by_cases hp : p < 0
    · rw [if_pos hp]
      exact ⟨-9, g, cvd, cvr, rch, ls, lf, ds, df, cov, sh1, rfl, rfl⟩
    · rw [if_neg hp]
      obtain ⟨k, hk, rfl⟩ := i_neg hp
      have hkn : ¬ nI k < nI T.length := by
        intro q
        have hlt := (nI_ltI hk (by omega)).mp q
        rw [mX3_isKnot, if_neg hp, if_neg (nI_le_f hlt (by omega))] at hk1
        cases hk1
      rw [if_neg hkn]
      exact ⟨-9, g, cvd, cvr, rch, ls, lf, ds, df, cov, sh1, rfl, rfl⟩
end SHB
