/-! the relation, and what is owed -/
/-- built: the same order on both sides, the class's shared lengths beside it -/
def zr_bt (t xs xr xl ys yr : Nat → Int32) (N : Nat) : Prop :=
  ∃ g : Nat → Nat, zs_O (zs_t t) N g ∧ (∀ q, q < N → xs q = nI (g q)) ∧ (∀ q, q < N → ys q = nI (g q)) ∧ (∀ q, q < N → xr q = nI (zs_K (zs_t t) N q)) ∧ (∀ q, q < N → yr q = nI (zs_K (zs_t t) N q)) ∧ (∀ q, q < N → xl q = nI (zs_l (zs_t t) N g q))
def i_Rel (_ : Nat) (u : SX) (v : SY) : Prop :=
  ∃ (C N M : Nat) (G b : Int32) (t p xs xr xl ys yr : Nat → Int32), u = (nI C, G, nI N, nI M, b, t, p, xs, xr, xl) ∧ v = (nI C, G, nI N, nI M, b, t, p, ys, yr) ∧ C ≤ 128 ∧ N ≤ C ∧ M ≤ C ∧ (b = 0 ∨ (b = 1 ∧ zr_bt t xs xr xl ys yr N))
theorem i_up {k : Nat} {u : SX} {v : SY} (h : i_Rel k u v) : i_Rel (k + 2) u v := h
theorem zr_0 {k C : Nat} {G : Int32} (hC : C ≤ 128) : i_Rel k (nI C, G, 0, 0, 0, (fun _ => 0), (fun _ => 0), (fun _ => 0), (fun _ => 0), (fun _ => 0)) (nI C, G, 0, 0, 0, (fun _ => 0), (fun _ => 0), (fun _ => 0), (fun _ => 0)) :=
  ⟨C, 0, 0, G, 0, _, _, _, _, _, _, _, rfl, rfl, hC, Nat.zero_le _, Nat.zero_le _, Or.inl rfl⟩
theorem zr_sig {W : (SY → Prop) → Prop} {x : Int32} {C : Nat} (hC : C ≤ 128) (hW : ∀ post : SY → Prop, wY_init_66 post x (nI C) 0 0 0 0 0 (fun _ => 0) (fun _ => 0) (fun _ => 0) (fun _ => 0) → W post) : wpX_clamp (fun r_2 => W (fun v => i_Rel 2 (nI C, r_2, 0, 0, 0, (fun _ => 0), (fun _ => 0), (fun _ => 0), (fun _ => 0), (fun _ => 0)) v)) x 1 64 := by
  refine br_c (fun h1 => br_c (fun h2 => hW _ ?_) (fun h2 => hW _ ?_)) (fun h1 => hW _ ?_)
  · exact br_t h1 (br_t h2 (zr_0 (k := 2) hC))
  · exact br_t h1 (br_f h2 (zr_0 (k := 2) hC))
  · exact br_f h1 (zr_0 (k := 2) hC)
theorem i_vc0 (k0 : Int32) (k1 : Int32) : wpX_init (fun u => wpY_init (fun v => i_Rel 2 u v) k0 k1) k0 k1 := by
  unfold wpX_init
  refine br_c (fun h1 => br_c (fun h2 => ?_) (fun h2 => ?_)) (fun h1 => ?_)
  · obtain ⟨C, hC, rfl⟩ := nI_of2 (x := k0) (M := 128) (n := 128) (by decide) (Int32.not_lt.mpr (Int32.le_trans (by decide) h1)) h2
    exact zr_sig (W := fun post => wpY_init post (nI C) k1) hC (fun post h => br_t h1 (br_t h2 h))
  · exact zr_sig (W := fun post => wpY_init post k0 k1) (C := 128) (by omega) (fun post h => br_t h1 (br_f h2 h))
  · exact zr_sig (W := fun post => wpY_init post k0 k1) (C := 8) (by omega) (fun post h => br_f h1 h)
theorem i_vc_clear {k : Nat} {u : SX} {v : SY} (I : i_Rel k u v) (hk : k + 2 ≤ 1026) : wpX_clear (fun u' => wpY_clear (fun v' => i_Rel (k + 2) u' v') v) u := by
  obtain ⟨C, N, M, G, b, t, p, xs, xr, xl, ys, yr, rfl, rfl, hC, hN, hM, hb⟩ := I
  exact ⟨C, 0, M, G, 0, t, p, xs, xr, xl, ys, yr, rfl, rfl, hC, Nat.zero_le _, hM, Or.inl rfl⟩
theorem i_vc_append {k : Nat} {u : SX} {v : SY} (I : i_Rel k u v) (hk : k + 2 ≤ 1026) (v1 : Int32) : wpX_append (fun r u' => wpY_append (fun r' v' => r' = r ∧ i_Rel (k + 2) u' v') v v1) u v1 := by
  have I' := I
  obtain ⟨C, N, M, G, b, t, p, xs, xr, xl, ys, yr, rfl, rfl, hC, hN, hM, hb⟩ := I
  unfold wpX_append
  dsimp only
  refine br_c (fun h1 => ?_) (fun h1 => br_c (fun h2 => ?_) (fun h2 => ?_))
  · exact br_t rfl (br_t h1 ⟨rfl, I'⟩)
  · exact br_t rfl (br_f h1 (br_f (Int32.not_lt.mpr h2) ⟨rfl, I'⟩))
  · have h2' : v1 < G := Int32.not_le.mp h2
    refine br_f (by decide) ?_
    by_cases c : N < C
    · refine br_t (nI_lt c (by omega)) ⟨zt_in (by omega), nm_e (nm_r (nI_1 N) ?_)⟩
      exact br_f h1 (br_t h2' (br_f (fun z => absurd ((nI_eq (by omega) (by omega)).mp z) (by omega)) ⟨zt_in (by omega), nm_e (nm_r (nI_1 N) ⟨rfl, C, N + 1, M, G, 0, _, p, xs, xr, xl, ys, yr, rfl, rfl, hC, c, hM, Or.inl rfl⟩)⟩))
    · have e : N = C := by omega
      exact br_f (nI_nlt (by omega) (by omega)) (br_f h1 (br_t h2' (br_t (congrArg nI e) ⟨rfl, I'⟩)))
theorem i_vc_length {k : Nat} {u : SX} {v : SY} (I : i_Rel k u v) (hk : k + 2 ≤ 1026) : wpX_length (fun r => wpY_length (fun r' => r' = r ∧ i_Rel (k + 2) u v) v) u := by
  have I' := I
  obtain ⟨C, N, M, G, b, t, p, xs, xr, xl, ys, yr, rfl, rfl, hC, hN, hM, hb⟩ := I
  exact ⟨rfl, I'⟩
theorem i_vc_symbolAt {k : Nat} {u : SX} {v : SY} (I : i_Rel k u v) (hk : k + 2 ≤ 1026) (v1 : Int32) : wpX_symbolAt (fun r => wpY_symbolAt (fun r' => r' = r ∧ i_Rel (k + 2) u v) v v1) u v1 := by
  have I' := I
  obtain ⟨C, N, M, G, b, t, p, xs, xr, xl, ys, yr, rfl, rfl, hC, hN, hM, hb⟩ := I
  unfold wpX_symbolAt
  dsimp only
  refine br_c (fun h1 => ?_) (fun h1 => br_c (fun h2 => ?_) (fun h2 => ?_))
  · exact br_t rfl (br_t h1 ⟨rfl, I'⟩)
  · exact br_t rfl (br_f h1 (br_f (Int32.not_lt.mpr h2) ⟨rfl, I'⟩))
  · have h2' : v1 < nI N := Int32.not_le.mp h2
    have hi : vp_in v1 128 := by
      obtain ⟨j, hj, rfl⟩ := nI_of h1
      rw [nI_ltI hj (by omega)] at h2'
      exact zt_in (by omega)
    exact br_f (by decide) ⟨hi, br_f h1 (br_t h2' ⟨hi, rfl, I'⟩)⟩
theorem i_vc_build {k : Nat} {u : SX} {v : SY} (I : i_Rel k u v) (hk : k + 2 ≤ 1026) : wpX_build (fun r u' => wpY_build (fun r' v' => r' = r ∧ i_Rel (k + 2) u' v') v) u := by
  have I' := I
  obtain ⟨C, N, M, G, b, t, p, xs, xr, xl, ys, yr, rfl, rfl, hC, hN, hM, hb⟩ := I
  by_cases c : N = 0
  · exact br_t (congrArg nI c) (br_t (congrArg nI c) ⟨rfl, I'⟩)
  · refine zx_build (by omega) (by omega) (fun s' r' l' g hO hs hr hl => ?_)
    refine zy_build (by omega) (by omega) (fun s'' r'' hY => ?_)
    refine ⟨rfl, C, N, M, G, 1, t, p, s', r', l', s'', r'', rfl, rfl, hC, hN, hM, Or.inr ⟨rfl, g, hO, hs, fun q hq => ?_, fun q hq => ?_, fun q hq => (hY q hq).1, hl⟩⟩
    · obtain ⟨a1, a2⟩ := hO q hq
      have a3 := (hY (g q) a1).2
      rw [a2] at a3
      exact a3
    · have a3 := hr (zs_K (zs_t t) N q) (zs_K_n hq)
      rw [zs_O_i hO hq] at a3
      exact a3
theorem i_vc_isBuilt {k : Nat} {u : SX} {v : SY} (I : i_Rel k u v) (hk : k + 2 ≤ 1026) : wpX_isBuilt (fun r => wpY_isBuilt (fun r' => r' = r ∧ i_Rel (k + 2) u v) v) u := by
  have I' := I
  obtain ⟨C, N, M, G, b, t, p, xs, xr, xl, ys, yr, rfl, rfl, hC, hN, hM, hb⟩ := I
  rcases hb with rfl | ⟨rfl, _⟩
  · exact ⟨rfl, rfl, rfl, I'⟩
  · exact ⟨rfl, rfl, rfl, I'⟩
theorem i_vc_suffixAt {k : Nat} {u : SX} {v : SY} (I : i_Rel k u v) (hk : k + 2 ≤ 1026) (v1 : Int32) : wpX_suffixAt (fun r => wpY_suffixAt (fun r' => r' = r ∧ i_Rel (k + 2) u v) v v1) u v1 := by
  have I' := I
  obtain ⟨C, N, M, G, b, t, p, xs, xr, xl, ys, yr, rfl, rfl, hC, hN, hM, hb⟩ := I
  rcases hb with rfl | ⟨rfl, g, hO, hxs, hys, hxr, hyr, hxl⟩
  · exact br_t rfl (br_t rfl ⟨rfl, I'⟩)
  · unfold wpX_suffixAt
    dsimp only
    refine br_f (by decide) (br_c (fun h1 => ?_) (fun h1 => br_c (fun h2 => ?_) (fun h2 => ?_)))
    · exact br_t rfl (br_f (by decide) (br_t h1 ⟨rfl, I'⟩))
    · exact br_t rfl (br_f (by decide) (br_f h1 (br_f (Int32.not_lt.mpr h2) ⟨rfl, I'⟩)))
    · have h2' : v1 < nI N := Int32.not_le.mp h2
      obtain ⟨j, hj, rfl⟩ := nI_of h1
      have h3 : j < N := (nI_ltI hj (by omega)).mp h2'
      have hi : vp_in (nI j) 128 := zt_in (by omega)
      refine br_f (by decide) ⟨hi, br_f (by decide) (br_f h1 (br_t h2' ⟨hi, ?_, I'⟩))⟩
      rw [zt_cl (i := j) (by omega), hxs j h3, hys j h3]
theorem i_vc_rankOf {k : Nat} {u : SX} {v : SY} (I : i_Rel k u v) (hk : k + 2 ≤ 1026) (v1 : Int32) : wpX_rankOf (fun r => wpY_rankOf (fun r' => r' = r ∧ i_Rel (k + 2) u v) v v1) u v1 := by
  have I' := I
  obtain ⟨C, N, M, G, b, t, p, xs, xr, xl, ys, yr, rfl, rfl, hC, hN, hM, hb⟩ := I
  rcases hb with rfl | ⟨rfl, g, hO, hxs, hys, hxr, hyr, hxl⟩
  · exact br_t rfl (br_t rfl ⟨rfl, I'⟩)
  · unfold wpX_rankOf
    dsimp only
    refine br_f (by decide) (br_c (fun h1 => ?_) (fun h1 => br_c (fun h2 => ?_) (fun h2 => ?_)))
    · exact br_t rfl (br_f (by decide) (br_t h1 ⟨rfl, I'⟩))
    · exact br_t rfl (br_f (by decide) (br_f h1 (br_f (Int32.not_lt.mpr h2) ⟨rfl, I'⟩)))
    · have h2' : v1 < nI N := Int32.not_le.mp h2
      obtain ⟨j, hj, rfl⟩ := nI_of h1
      have h3 : j < N := (nI_ltI hj (by omega)).mp h2'
      have hi : vp_in (nI j) 128 := zt_in (by omega)
      refine br_f (by decide) ⟨hi, br_f (by decide) (br_f h1 (br_t h2' ⟨hi, ?_, I'⟩))⟩
      rw [zt_cl (i := j) (by omega), hxr j h3, hyr j h3]
theorem i_vc_lcpAt {k : Nat} {u : SX} {v : SY} (I : i_Rel k u v) (hk : k + 2 ≤ 1026) (v1 : Int32) : wpX_lcpAt (fun r => wpY_lcpAt (fun r' => r' = r ∧ i_Rel (k + 2) u v) v v1) u v1 := by
  have I' := I
  obtain ⟨C, N, M, G, b, t, p, xs, xr, xl, ys, yr, rfl, rfl, hC, hN, hM, hb⟩ := I
  rcases hb with rfl | ⟨rfl, g, hO, hxs, hys, hxr, hyr, hxl⟩
  · exact br_t rfl (br_t rfl ⟨rfl, I'⟩)
  · unfold wpX_lcpAt
    dsimp only
    refine br_f (by decide) (br_c (fun h1 => ?_) (fun h1 => br_c (fun h2 => ?_) (fun h2 => ?_)))
    · exact br_t rfl (br_f (by decide) (br_t h1 ⟨rfl, I'⟩))
    · exact br_t rfl (br_f (by decide) (br_f h1 (br_f (Int32.not_lt.mpr h2) ⟨rfl, I'⟩)))
    · have h2' : v1 < nI N := Int32.not_le.mp h2
      obtain ⟨j, hj, rfl⟩ := nI_of h1
      have h3 : j < N := (nI_ltI hj (by omega)).mp h2'
      have hi : vp_in (nI j) 128 := zt_in (by omega)
      rw [zt_cl (i := j) (by omega), hxl j h3]
      refine br_f (by decide) ⟨hi, ?_⟩
      unfold wpY_lcpAt
      dsimp only
      refine br_f (by decide) (br_f h1 (br_t h2' ?_))
      cases j with
      | zero => exact br_t rfl ⟨rfl, I'⟩
      | succ j =>
        refine br_f (nI_ne0 (Nat.succ_pos j) hj) ?_
        rw [nI_pred j, zt_cl (i := j) (by omega), zt_cl (i := j + 1) (by omega), hys j (by omega), hys (j + 1) h3]
        exact ⟨zt_in (by omega), hi, zy_lcp (by omega) (hO j (by omega)).1 (hO (j + 1) h3).1 ⟨congrArg nI (if_neg (Nat.succ_ne_zero j)).symm, I'⟩⟩
theorem i_vc_patClear {k : Nat} {u : SX} {v : SY} (I : i_Rel k u v) (hk : k + 2 ≤ 1026) : wpX_patClear (fun u' => wpY_patClear (fun v' => i_Rel (k + 2) u' v') v) u := by
  obtain ⟨C, N, M, G, b, t, p, xs, xr, xl, ys, yr, rfl, rfl, hC, hN, hM, hb⟩ := I
  exact ⟨C, N, 0, G, b, t, p, xs, xr, xl, ys, yr, rfl, rfl, hC, hN, Nat.zero_le _, hb⟩
theorem i_vc_patAppend {k : Nat} {u : SX} {v : SY} (I : i_Rel k u v) (hk : k + 2 ≤ 1026) (v1 : Int32) : wpX_patAppend (fun r u' => wpY_patAppend (fun r' v' => r' = r ∧ i_Rel (k + 2) u' v') v v1) u v1 := by
  have I' := I
  obtain ⟨C, N, M, G, b, t, p, xs, xr, xl, ys, yr, rfl, rfl, hC, hN, hM, hb⟩ := I
  unfold wpX_patAppend
  dsimp only
  refine br_c (fun h1 => ?_) (fun h1 => br_c (fun h2 => ?_) (fun h2 => ?_))
  · exact br_t rfl (br_t h1 ⟨rfl, I'⟩)
  · exact br_t rfl (br_f h1 (br_f (Int32.not_lt.mpr h2) ⟨rfl, I'⟩))
  · have h2' : v1 < G := Int32.not_le.mp h2
    refine br_f (by decide) ?_
    by_cases c : M < C
    · refine br_t (nI_lt c (by omega)) ⟨zt_in (by omega), nm_e (nm_r (nI_1 M) ?_)⟩
      exact br_f h1 (br_t h2' (br_f (fun z => absurd ((nI_eq (by omega) (by omega)).mp z) (by omega)) ⟨zt_in (by omega), nm_e (nm_r (nI_1 M) ⟨rfl, C, N, M + 1, G, b, t, _, xs, xr, xl, ys, yr, rfl, rfl, hC, hN, c, hb⟩)⟩))
    · have e : M = C := by omega
      exact br_f (nI_nlt (by omega) (by omega)) (br_f h1 (br_t h2' (br_t (congrArg nI e) ⟨rfl, I'⟩)))
theorem i_vc_count {k : Nat} {u : SX} {v : SY} (I : i_Rel k u v) (hk : k + 2 ≤ 1026) : wpX_count (fun r => wpY_count (fun r' => r' = r ∧ i_Rel (k + 2) u v) v) u := by
  have I' := I
  obtain ⟨C, N, M, G, b, t, p, xs, xr, xl, ys, yr, rfl, rfl, hC, hN, hM, hb⟩ := I
  rcases hb with rfl | ⟨rfl, g, hO, hxs, hys, hxr, hyr, hxl⟩
  · exact br_t rfl (br_t rfl ⟨rfl, I'⟩)
  · exact zx_count (by omega) (by omega) (by decide) (zy_count (by omega) (by omega) (by decide) ⟨rfl, I'⟩)
theorem i_vc_rangeStart {k : Nat} {u : SX} {v : SY} (I : i_Rel k u v) (hk : k + 2 ≤ 1026) : wpX_rangeStart (fun r => wpY_rangeStart (fun r' => r' = r ∧ i_Rel (k + 2) u v) v) u := by
  have I' := I
  obtain ⟨C, N, M, G, b, t, p, xs, xr, xl, ys, yr, rfl, rfl, hC, hN, hM, hb⟩ := I
  rcases hb with rfl | ⟨rfl, g, hO, hxs, hys, hxr, hyr, hxl⟩
  · exact br_t rfl (br_t rfl ⟨rfl, I'⟩)
  · exact zx_range (by omega) (by omega) (by decide) (zy_range (by omega) (by omega) (by decide) ⟨rfl, I'⟩)
theorem i_vc_locate {k : Nat} {u : SX} {v : SY} (I : i_Rel k u v) (hk : k + 2 ≤ 1026) (v1 : Int32) : wpX_locate (fun r => wpY_locate (fun r' => r' = r ∧ i_Rel (k + 2) u v) v v1) u v1 := by
  have I' := I
  obtain ⟨C, N, M, G, b, t, p, xs, xr, xl, ys, yr, rfl, rfl, hC, hN, hM, hb⟩ := I
  rcases hb with rfl | ⟨rfl, g, hO, hxs, hys, hxr, hyr, hxl⟩
  · exact br_t rfl (br_t rfl ⟨rfl, I'⟩)
  · by_cases h1 : v1 < 0
    · exact br_f (by decide) (br_f (Int32.not_le.mpr h1) (zy_locate_neg (by omega) (by omega) (by decide) h1 ⟨rfl, I'⟩))
    · obtain ⟨j, hj, rfl⟩ := nI_of h1
      exact br_f (by decide) (br_t (Int32.not_lt.mp h1) ⟨N + 1, zx_locate_lp (by omega) (by omega) hj N 0 (by omega) (zy_locate (by omega) (by omega) (by decide) hj ⟨rfl, I'⟩)⟩)
theorem i_vc_distinctSubstrings {k : Nat} {u : SX} {v : SY} (I : i_Rel k u v) (hk : k + 2 ≤ 1026) : wpX_distinctSubstrings (fun r => wpY_distinctSubstrings (fun r' => r' = r ∧ i_Rel (k + 2) u v) v) u := by
  have I' := I
  obtain ⟨C, N, M, G, b, t, p, xs, xr, xl, ys, yr, rfl, rfl, hC, hN, hM, hb⟩ := I
  rcases hb with rfl | ⟨rfl, g, hO, hxs, hys, hxr, hyr, hxl⟩
  · exact br_t rfl (br_t rfl ⟨rfl, I'⟩)
  · exact zx_dist (by omega) (by decide) hO hxs hxl (zy_dist (by omega) (by decide) ⟨congrArg nI (zs_dist hO).symm, I'⟩)
theorem i_vc_longestRepeat {k : Nat} {u : SX} {v : SY} (I : i_Rel k u v) (hk : k + 2 ≤ 1026) : wpX_longestRepeat (fun r => wpY_longestRepeat (fun r' => r' = r ∧ i_Rel (k + 2) u v) v) u := by
  have I' := I
  obtain ⟨C, N, M, G, b, t, p, xs, xr, xl, ys, yr, rfl, rfl, hC, hN, hM, hb⟩ := I
  rcases hb with rfl | ⟨rfl, g, hO, hxs, hys, hxr, hyr, hxl⟩
  · exact br_t rfl (br_t rfl ⟨rfl, I'⟩)
  · exact zx_long (by omega) (by decide) hO hxl (zy_long (by omega) (by decide) (fun v hv => ⟨congrArg nI (zs_top_u hv (zs_top_X hO)), I'⟩))
